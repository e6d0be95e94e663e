/-! by parts, closing, and what a way takes, in the model -/
theorem mp_eq {σ σ' : AS} {p : Int} (h1 : σ' 113 = σ 113) (h2 : σ' 114 = σ 114) (h3 : σ' 115 = σ 115) : mp σ' p = mp σ p := by unfold mp; rw [h1, h2, h3]
theorem MT_eq {σ σ' : AS} (h : MT σ) (h1 : σ' 113 = σ 113) (h2 : σ' 114 = σ 114) (h3 : σ' 115 = σ 115) : MT σ' := by
  intro p a b
  rw [mp_eq h1 h2 h3, h1]
  exact h p a b
theorem mt_eq {σ σ' : AS} (h1 : σ' 82 54 = σ 82 54) (h2 : σ' 118 = σ 118) (h3 : σ' 119 = σ 119) : mt σ' = mt σ := by unfold mt; rw [h1, h2, h3]
theorem MT_mtk {σ σ' : AS} {p : Int} {l' t : MP} {n : Int} (h : MT σ) (hk : mtk σ p l' t n σ') (h1 : ∀ q ∈ l', (0 ≤ q.1 ∧ q.1 < 10) ∧ 0 ≤ q.2) (h2 : psum l' ≤ 1000000000) : MT σ' := by
  obtain ⟨k1, k2, k3, k4, k5, k6⟩ := hk
  intro p' a b
  rw [k1.cell 113 (by decide)]
  have := h p' a b
  by_cases e : p' = p
  · rw [e] at this ⊢
    rw [k2]
    exact ⟨this.1, h1, h2⟩
  · rw [k3 p' a b e]
    exact this
theorem pof_zero {o : Int} : ∀ {l : MP}, (∀ q ∈ l, q.1 ≠ o) → pof o l = 0
  | [], _ => rfl
  | q :: r, h => by rw [pof, if_neg (h q List.mem_cons_self), pof_zero (fun x hx => h x (List.mem_cons_of_mem _ hx))]; rfl
theorem sm_short {f : Int → Int} {k : Nat} : ∀ {n : Nat}, k ≤ n → (∀ i : Int, k ≤ i → i < n → f i = 0) → sm f n = sm f k
  | 0, h, _ => by rw [show k = 0 by omega]
  | n + 1, h, h0 => by
    by_cases e : k = n + 1
    · rw [e]
    · rw [sm, h0 n (by omega) (by omega), sm_short (k := k) (n := n) (by omega) (fun i a b => h0 i a (by omega)), Int.add_zero]
theorem cp_short {f : Int → Int} {k : Nat} : ∀ {n : Nat}, k ≤ n → (∀ i : Int, k ≤ i → i < n → f i = 0) → cp f n = cp f k
  | 0, h, _ => by rw [show k = 0 by omega]
  | n + 1, h, h0 => by
    by_cases e : k = n + 1
    · rw [e]
    · rw [cp, h0 n (by omega) (by omega), cp_short (k := k) (n := n) (by omega) (fun i a b => h0 i a (by omega)), if_neg (by omega), Int.add_zero]
theorem pq_short {s : Int} {w : Int → Int} {k n : Nat} (h : k ≤ n) (h0 : ∀ i : Int, k ≤ i → i < n → w i = 0) (i : Int) : pq s w n i = pq s w k i := by
  unfold pq
  rw [sm_short h h0, sm_short (f := fun j => s * w j / sm w k) h (fun j a b => by rw [h0 j a b, Int.mul_zero, Int.zero_ediv])]
theorem pq_zero {s : Int} {w : Int → Int} {n : Nat} {i : Int} (h : w i = 0) : pq s w n i = 0 := by
  unfold pq
  rw [h, Int.mul_zero, Int.zero_ediv, if_neg (by omega)]
  rfl
theorem gq_z {q : Int → Int} {l : MP} {k : Nat} (hl : ∀ x ∈ l, 0 ≤ x.2) : ∀ {n : Nat}, k ≤ n → (∀ o : Int, 0 ≤ o → o < k → 0 ≤ q o) → (∀ o : Int, k ≤ o → o < n → q o = 0) → gq q l n = gq q l k
  | 0, h, _, _ => by rw [show k = 0 by omega]
  | n + 1, h, hq, h0 => by
    by_cases e : k = n + 1
    · rw [e]
    · have ih := gq_z (n := n) hl (by omega) hq (fun o a b => h0 o a (by omega))
      have hnn := (tk_gq hl hq).1
      rw [gq, h0 n (by omega) (by omega), ih, gr_z hnn, List.append_nil]
theorem lp_parts1 {Ln : Int} {d : Nat} {p s all : Int} {n : Nat} {σ0 : AS} {Q : Option AV → AS → Prop} (hp : 0 ≤ p ∧ p < 10) (hT : MT σ0) (hn : σ0 82 3 = n) (hn2 : n ≤ 10) (hs : 0 ≤ s ∧ s ≤ 1000000) (hall : all = psum (mp σ0 p)) (ha0 : 0 < all)
    (hfl : ∀ j : Int, 0 ≤ j → j < n → 0 ≤ s * pof j (mp σ0 p) / all ∧ s * pof j (mp σ0 p) / all ≤ 1000000000) (hsm : ∀ k : Nat, k ≤ n → 0 ≤ sm (fun j => s * pof j (mp σ0 p) / all) k ∧ sm (fun j => s * pof j (mp σ0 p) / all) k ≤ s)
    (hend : ∀ σ, Fr [120] [] σ0 σ → (∀ j : Int, 0 ≤ j → j < n → σ 120 j = s * pof j (mp σ0 p) / all) → am_E Ln (d + 1) 186 64 [vR 82, vI p, vU, vU, vI (s - sm (fun j => s * pof j (mp σ0 p) / all) n), vI 0, vU] [] σ Q) :
    ∀ (m k : Nat) (σ : AS), k + m = n → Fr [120] [] σ0 σ → (∀ j : Int, 0 ≤ j → j < k → σ 120 j = s * pof j (mp σ0 p) / all) →
    am_E Ln (d + 1) 186 12 [vR 82, vI p, vI s, vI all, vI (s - sm (fun j => s * pof j (mp σ0 p) / all) k), vI (k : Int), vU] [] σ Q := by
  intro m
  induction m with
  | zero =>
    intro k σ hk hf hg
    obtain rfl : k = n := by omega
    have e3 : σ 82 3 = k := by rw [hf.fld 82 3 (by decide), hn]
    exact vl_X12_takesByParts_12 _ _ _ _ _ _ ⟨fun _ => hend σ hf hg, fun h => absurd (by omega) h⟩
  | succ m ih =>
    intro k σ hk hf hg
    have e3 : σ 82 3 = n := by rw [hf.fld 82 3 (by decide), hn]
    have eT : MT σ := MT_eq hT (hf.cell 113 (by decide)) (hf.cell 114 (by decide)) (hf.cell 115 (by decide))
    have emp : mp σ p = mp σ0 p := mp_eq (hf.cell 113 (by decide)) (hf.cell 114 (by decide)) (hf.cell 115 (by decide))
    have h2 := hT p hp.1 hp.2
    have hb := pof_nn (o := (k : Int)) (fun q hq => (h2.2.1 q hq).2)
    have hf1 := hfl k (by omega) (by omega)
    have hs1 := hsm k (by omega)
    have hs2 := hsm (k + 1) (by omega)
    rw [sm] at hs2
    have hm1 : 0 ≤ s * pof k (mp σ0 p) := Int.mul_nonneg hs.1 hb.1
    have hm2 : s * pof k (mp σ0 p) ≤ 1000000 * 1000000000 := Int.mul_le_mul hs.2 (by omega) hb.1 (by omega)
    refine vl_X12_takesByParts_12 _ _ _ _ _ _ ⟨fun h => absurd h (by omega), fun _ => cI (sp_of hp eT) ?_⟩
    rintro r s1 ⟨rfl, rfl⟩
    rw [emp, w64_id (x := s * pof k (mp σ0 p)) (by omega) (by omega), tdiv_nn hm1, w64_id (x := s * pof k (mp σ0 p) / all) (by omega) (by omega), w32_id (x := s * pof k (mp σ0 p) / all) (by omega) (by omega), am_up_eq, if_pos rfl]
    refine ⟨by omega, ⟨by omega, by omega⟩, ⟨by omega, by omega⟩, ?_⟩
    have key := ih (k + 1) (am_up s1 120 k (s * pof k (mp σ0 p) / all)) (by omega) (Fr.up hf (Or.inl (by decide))) (fun j a b => by
      rw [am_up_eq]
      by_cases e : j = k
      · rw [if_pos e, e]
      · rw [if_neg e]; exact hg j a (by omega))
    rw [sm, show ((k + 1 : Nat) : Int) = (k : Int) + 1 by omega] at key
    rw [w32_id (x := s - sm (fun j => s * pof j (mp σ0 p) / all) k - s * pof k (mp σ0 p) / all) (by omega) (by omega), w32_id (x := (k : Int) + 1) (by omega) (by omega), show s - sm (fun j => s * pof j (mp σ0 p) / all) k - s * pof k (mp σ0 p) / all = s - (sm (fun j => s * pof j (mp σ0 p) / all) k + s * pof k (mp σ0 p) / all) by omega]
    exact key
theorem lp_parts2 {Ln : Int} {d : Nat} {p s : Int} {n : Nat} {σ0 : AS} {w : Int → Int} {Q : Option AV → AS → Prop} (hp : 0 ≤ p ∧ p < 10) (hT : MT σ0) (hn : σ0 82 3 = n) (hn2 : n ≤ 10) (hw : w = fun o => pof o (mp σ0 p)) (hs : 0 ≤ s ∧ s ≤ 1000000) (hss : s ≤ sm w n) (ha0 : 0 < sm w n) (hwn : ∀ i : Int, 0 ≤ i → i < n → 0 ≤ w i)
    (hend : ∀ σ, Fr [120] [] σ0 σ → (∀ j : Int, 0 ≤ j → j < n → σ 120 j = pq s w n j) → am_E Ln (d + 1) 186 121 [vR 82, vI p, vU, vU, vU, vI 0, vU] [] σ Q) :
    ∀ (m k : Nat) (σ : AS), k + m = n → Fr [120] [] σ0 σ → (∀ j : Int, 0 ≤ j → j < k → σ 120 j = pq s w n j) → (∀ j : Int, k ≤ j → j < n → σ 120 j = s * w j / sm w n) → 0 ≤ s - sm (fun j => s * w j / sm w n) n - cp w k →
    am_E Ln (d + 1) 186 64 [vR 82, vI p, vU, vU, vI (s - sm (fun j => s * w j / sm w n) n - cp w k), vI (k : Int), vU] [] σ Q := by
  intro m
  induction m with
  | zero =>
    intro k σ hk hf hg hg2 hl
    obtain rfl : k = n := by omega
    have e3 : σ 82 3 = k := by rw [hf.fld 82 3 (by decide), hn]
    exact vl_X12_takesByParts_64 _ _ _ _ ⟨fun _ => hend σ hf hg, fun h => absurd (by omega) h⟩
  | succ m ih =>
    intro k σ hk hf hg hg2 hl
    have e3 : σ 82 3 = n := by rw [hf.fld 82 3 (by decide), hn]
    have eT : MT σ := MT_eq hT (hf.cell 113 (by decide)) (hf.cell 114 (by decide)) (hf.cell 115 (by decide))
    have emp : mp σ p = mp σ0 p := mp_eq (hf.cell 113 (by decide)) (hf.cell 114 (by decide)) (hf.cell 115 (by decide))
    have ewk : pof k (mp σ0 p) = w k := by rw [hw]
    have hfl := pq_floor hs.1 hss ha0 hwn (i := (k : Int)) (by omega) (by omega)
    have hwk := hwn k (by omega) (by omega)
    have hgk := hg2 k (by omega) (by omega)
    have hsum := pq_sum hs.1 ha0 hwn (k := n) (Nat.le_refl n)
    have hcb := cp_bd (w := w) k
    have hwb : w k ≤ 1000000000 := by
      have h2 := hT p hp.1 hp.2
      have hb := pof_nn (o := (k : Int)) (fun q hq => (h2.2.1 q hq).2)
      rw [ewk] at hb
      omega
    refine vl_X12_takesByParts_64 _ _ _ _ ⟨fun h => absurd h (by omega), fun _ => ⟨fun h => ?_, fun h => cI (sp_of hp eT) ?_⟩⟩
    · refine hend σ hf fun j a b => ?_
      by_cases e : j < k
      · exact hg j a e
      · rw [hg2 j (by omega) b, pq, if_neg, Int.add_zero]
        rintro ⟨-, q⟩
        have := cp_mono (w := w) (k := k) (n := j.toNat) (by omega)
        omega
    · rintro r s1 ⟨rfl, rfl⟩
      rw [emp, ewk, hgk]
      have hlt : s < sm w n := by
        by_cases e : s = sm w n
        · exfalso
          have : sm (fun j => s * w j / sm w n) n = sm w n := sm_congr (fun j a b => by rw [e]; exact Int.mul_ediv_cancel_left _ (by omega))
          omega
        · omega
      have epq : pq s w n k = s * w k / sm w n + (if 0 < w k then 1 else 0) := by
        rw [pq, show ((k : Int)).toNat = k by omega]
        by_cases e : 0 < w k
        · rw [if_pos ⟨e, by omega⟩, if_pos e]
        · rw [if_neg (fun q => e q.1), if_neg e]
      refine ⟨⟨by omega, by omega⟩, fun h2 => ⟨⟨by omega, by omega⟩, ⟨by omega, by omega⟩, ?_⟩, fun h2 => ?_⟩
      · have hpos : 0 < w k := by omega
        rw [if_pos hpos] at epq
        have key := ih (k + 1) (am_up s1 120 k (s * w k / sm w n + 1)) (by omega) (Fr.up hf (Or.inl (by decide))) (fun j a b => by
          rw [am_up_eq]
          by_cases e : j = k
          · rw [if_pos e, e, epq]
          · rw [if_neg e]; exact hg j a (by omega)) (fun j a b => by
          rw [am_up_eq, if_neg (by omega)]; exact hg2 j (by omega) b) (by rw [cp, if_pos hpos]; omega)
        rw [cp, if_pos hpos, show ((k + 1 : Nat) : Int) = (k : Int) + 1 by omega] at key
        rw [w32_id (x := s * w k / sm w n + 1) (by omega) (by omega), w32_id (x := s - sm (fun j => s * w j / sm w n) n - cp w k + -1) (by omega) (by omega), w32_id (x := (k : Int) + 1) (by omega) (by omega), show s - sm (fun j => s * w j / sm w n) n - cp w k + -1 = s - sm (fun j => s * w j / sm w n) n - (cp w k + 1) by omega]
        exact key
      · have hpos : ¬ 0 < w k := fun q => h2 (hfl.2.2 hlt q)
        rw [if_neg hpos, Int.add_zero] at epq
        have key := ih (k + 1) s1 (by omega) hf (fun j a b => by
          by_cases e : j = k
          · rw [e, epq, hgk]
          · exact hg j a (by omega)) (fun j a b => hg2 j (by omega) b) (by rw [cp, if_neg hpos]; omega)
        rw [cp, if_neg hpos, Int.add_zero, show ((k + 1 : Nat) : Int) = (k : Int) + 1 by omega] at key
        rw [w32_id (x := (k : Int) + 1) (by omega) (by omega)]
        exact key
