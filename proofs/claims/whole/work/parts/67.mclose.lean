/-! closing a row, and taking out by a way, in the model -/
def mpf (σ : AS) (p i : Int) : MP := rl i (fun j => (σ 114 (1400 * p + j), σ 115 (1400 * p + j)))
theorem mpf_succ {σ : AS} {p i : Int} (h : 0 ≤ i) : mpf σ p (i + 1) = mpf σ p i ++ [(σ 114 (1400 * p + i), σ 115 (1400 * p + i))] := rl_succ _ h
theorem mpf_sub {σ : AS} {p i : Int} (h0 : 0 ≤ i) (h : i ≤ σ 113 p) : ∃ r, mp σ p = mpf σ p i ++ r := ⟨_, rl_split _ h0 h⟩
theorem layAll_nn {r a : MP} (h : ∀ x ∈ a, 0 ≤ x.2) : ∀ x ∈ layAll a r, 0 ≤ x.2 := by
  induction r generalizing a with
  | nil => exact h
  | cons y r ih => rw [layAll_cons]; exact ih (lay_nn h)
def mclose (σ : AS) (p : Int) (σ' : AS) : Prop := Fr [113, 114, 115] [] σ σ' ∧ mp σ' p = layAll [] (mp σ p) ∧ (∀ p' : Int, 0 ≤ p' → p' < 10 → p' ≠ p → mp σ' p' = mp σ p') ∧ ∀ p' : Int, 0 ≤ p' → p' < 10 → 0 ≤ σ' 113 p' ∧ σ' 113 p' ≤ σ 113 p'
theorem lp_closes {Ln : Int} {d : Nat} {p : Int} {σ0 : AS} (hp : 0 ≤ p ∧ p < 10) (hT : MT σ0) : ∀ (m : Nat) (i : Int) (σ : AS), 0 ≤ i → i ≤ σ0 113 p → (σ0 113 p - i).toNat = m →
    Fr [113, 114, 115] [] σ0 σ → mp σ p = layAll [] (mpf σ0 p i) → (∀ p' : Int, 0 ≤ p' → p' < 10 → p' ≠ p → mp σ p' = mp σ0 p') → (∀ p' : Int, 0 ≤ p' → p' < 10 → 0 ≤ σ 113 p' ∧ σ 113 p' ≤ σ0 113 p') → σ 113 p ≤ i → (∀ x : Int, 1400 * p + i ≤ x → x < 1400 * p + σ0 113 p → σ 114 x = σ0 114 x ∧ σ 115 x = σ0 115 x) →
    am_E Ln (d + 1) 187 20 [vR 82, vI p, vI (σ0 113 p), vI (1400 * p + i)] [] σ (am_rV (mclose σ0 p)) := by
  obtain ⟨h1, h2, h3⟩ := hT p hp.1 hp.2
  intro m
  induction m with
  | zero =>
    intro i σ hi hin hm hf hx ho hb hbi hu
    obtain rfl : i = σ0 113 p := by omega
    refine vl_X12_closes_20 _ _ _ _ ⟨fun _ => ⟨hf, hx, ho, hb⟩, fun h => absurd ?_ h⟩
    rw [w32_id (x := 1400 * p) (by omega) (by omega), w32_id (by omega) (by omega)]; omega
  | succ m ih =>
    intro i σ hi hin hm hf hx ho hb hbi hu
    have hlt : i < σ0 113 p := by omega
    obtain ⟨ux1, ux2⟩ := hu (1400 * p + i) (by omega) (by omega)
    obtain ⟨rr, hrr⟩ := mpf_sub (σ := σ0) (p := p) (i := i + 1) (by omega) (by omega)
    have hnf : ∀ q ∈ mpf σ0 p (i + 1), 0 ≤ q.2 := fun q hq => (h2 q (by rw [hrr]; exact List.mem_append.mpr (Or.inl hq))).2
    have hpsf : psum (mpf σ0 p (i + 1)) ≤ 1000000000 := by
      have e := h3
      rw [hrr, psum_app] at e
      have := psum_nn (l := rr) (fun q hq => (h2 q (by rw [hrr]; exact List.mem_append.mpr (Or.inr hq))).2)
      omega
    rw [mpf_succ hi] at hnf hpsf
    rw [psum_app, psum_c, psum_nil] at hpsf
    have q0 : 0 ≤ σ0 115 (1400 * p + i) := hnf _ (List.mem_append.mpr (Or.inr List.mem_cons_self))
    have hnf1 : ∀ q ∈ mpf σ0 p i, 0 ≤ q.2 := fun q hq => hnf q (List.mem_append.mpr (Or.inl hq))
    have hps1 := psum_nn hnf1
    have hxs : psum (mp σ p) = psum (mpf σ0 p i) := by rw [hx, layAll_psum hnf1]; show 0 + _ = _; omega
    refine vl_X12_closes_20 _ _ _ _ ⟨fun h => absurd h ?_, fun _ => ⟨⟨by omega, by omega⟩, ⟨by omega, by omega⟩, ?_⟩⟩
    · rw [w32_id (x := 1400 * p) (by omega) (by omega), w32_id (by omega) (by omega)]; omega
    · rw [ux1, ux2]
      refine cV (sp_lays hp (fun p' a b => by have := hb p' a b; have := (hT p' a b).1; omega) ⟨q0, by omega⟩ (by rw [hx]; exact layAll_nn (fun x hx => by cases hx)) (by omega)) ?_
      rintro s ⟨y1, y2, y3, y4⟩
      rw [w32_id (x := 1400 * p + i + 1) (by omega) (by omega), show 1400 * p + i + 1 = 1400 * p + (i + 1) by omega]
      refine ih (i + 1) s (by omega) (by omega) (by omega) (hf.tr y1) ?_ (fun p' a b e => ?_) (fun p' a b => ?_) ?_ (fun x a b => ?_)
      · rw [y2 p hp.1 hp.2, if_pos rfl, hx, mpf_succ hi, layAll_app]; rfl
      · rw [y2 p' a b, if_neg e, ho p' a b e]
      · have hy := y3 p' a b
        have hbb := hb p' a b
        by_cases e : p' = p
        · rw [if_pos e] at hy; rw [e] at hy hbb ⊢; omega
        · rw [if_neg e] at hy; omega
      · have hy := y3 p hp.1 hp.2
        rw [if_pos rfl] at hy; omega
      · obtain ⟨v1, v2⟩ := y4 x (Or.inr (by omega))
        obtain ⟨u1, u2⟩ := hu x (by omega) b
        exact ⟨by rw [v1, u1], by rw [v2, u2]⟩
theorem sp_closes {Ln : Int} {d : Nat} {p : Int} {σ : AS} (hp : 0 ≤ p ∧ p < 10) (hT : MT σ) : am_M Ln (d + 2) 187 [vR 82, vI p] σ (am_rV (mclose σ p)) := by
  obtain ⟨h1, h2, h3⟩ := hT p hp.1 hp.2
  refine vm_X12_closes _ _ ⟨hp, hp, ?_⟩
  have ee : w32 (1400 * p) = 1400 * p + 0 := by rw [w32_id (by omega) (by omega)]; omega
  rw [ee]
  refine lp_closes hp hT _ 0 _ (by omega) (by omega) rfl (Fr.up Fr.rf (Or.inl (by decide))) ?_ (fun p' a b e => ?_) (fun p' a b => ?_) ?_ (fun x a b => ?_)
  · unfold mp
    rw [am_up_eq, if_pos rfl]
    rfl
  · unfold mp
    rw [am_up_eq, if_neg e]
    exact rl_congr fun j u v => by rw [am_up_ne (by decide), am_up_ne (by decide)]
  · have := (hT p' a b).1
    rw [am_up_eq]
    split <;> omega
  · rw [am_up_eq, if_pos rfl]; omega
  · rw [am_up_ne (by decide), am_up_ne (by decide)]; exact ⟨rfl, rfl⟩
def mback (σ : AS) (p i w : Int) (σ' : AS) : Prop := Fr [115, 118, 119] [(82, 54)] σ σ' ∧ mpf σ' p i = (gr fA w (mpf σ p i).reverse).1.reverse ∧ (∀ j : Int, (j < 1400 * p ∨ 1400 * p + i ≤ j) → σ' 115 j = σ 115 j) ∧ mt σ' = layAll (mt σ) (gr fA w (mpf σ p i).reverse).2.1 ∧ 0 ≤ σ' 82 54 ∧ σ' 82 54 ≤ σ 82 54 + i
theorem lp_back {Ln : Int} {d : Nat} {p : Int} {Q : Option AV → AS → Prop} (hp : 0 ≤ p ∧ p < 10) : ∀ (n : Nat) (σ : AS) (w : Int), (0 ≤ σ 113 p ∧ σ 113 p ≤ 1390) → (n : Int) ≤ σ 113 p → (∀ q ∈ mpf σ p n, 0 ≤ q.2 ∧ q.2 ≤ 1000000000) → (0 ≤ w ∧ w ≤ 1000000000) → (∀ q ∈ mt σ, 0 ≤ q.2) → psum (mt σ) + w ≤ 2000000000 → (0 ≤ σ 82 54 ∧ σ 82 54 + n ≤ 1500) →
    (∀ σ', mback σ p n w σ' → ∃ T : Option AV → AS → Prop, am_M Ln (d + 2) 187 [vR 82, vI p] σ' T ∧ ∀ s1, T none s1 → Q none s1) →
    am_E Ln (d + 2) 188 47 [vR 82, vI p, vU, vU, vI w, vI (1400 * p + n - 1)] [] σ Q := by
  intro n
  induction n with
  | zero =>
    intro σ w hr hn hq hw hmn hms ht hend
    refine vl_X12_takesOut_47 _ _ _ _ ⟨fun _ => hend σ ⟨Fr.rf, rfl, fun _ _ => rfl, rfl, ht.1, by omega⟩, fun h => absurd ?_ h⟩
    rw [w32_id (x := 1400 * p) (by omega) (by omega)]; omega
  | succ n ih =>
    intro σ w hr hn hq hw hmn hms ht hend
    have hn1 : ((n + 1 : Nat) : Int) = (n : Int) + 1 := by omega
    rw [hn1] at hq hend ht hn
    rw [hn1, show 1400 * p + ((n : Int) + 1) - 1 = 1400 * p + n by omega]
    rw [mpf_succ (by omega)] at hq
    have q0 : 0 ≤ σ 115 (1400 * p + n) ∧ σ 115 (1400 * p + n) ≤ 1000000000 := hq _ (List.mem_append.mpr (Or.inr List.mem_cons_self))
    refine vl_X12_takesOut_47 _ _ _ _ ⟨fun h => absurd h ?_, fun _ => ?_⟩
    · rw [w32_id (x := 1400 * p) (by omega) (by omega)]; omega
    · refine cI (sp_takesPart ⟨by omega, by omega⟩ ⟨ht.1, by omega⟩ hw q0 (fun q h => ⟨hmn q h, by have := psum_mem hmn q h; omega⟩)) ?_
      rintro r s1 ⟨x1, x2, x3, x4, x5, x6⟩
      have e113 : s1 113 = σ 113 := x2.cell 113 (by decide)
      have e114 : s1 114 = σ 114 := x2.cell 114 (by decide)
      have ed : mpf s1 p n = mpf σ p n := by
        unfold mpf
        rw [e114]
        exact rl_congr fun j a b => by rw [x3, fu_ne (by omega)]
      have hps : psum (mt s1) = psum (mt σ) + min w (σ 115 (1400 * p + n)) := by rw [x4]; exact lay_psum (by omega)
      rw [w32_id (by omega) (by omega), show 1400 * p + (n : Int) + -1 = 1400 * p + n - 1 by omega]
      refine ih s1 r (by rw [e113]; exact hr) (by rw [e113]; omega) (by rw [ed]; exact fun q h => hq q (List.mem_append.mpr (Or.inl h))) ⟨by omega, by omega⟩ (by rw [x4]; exact lay_nn hmn) (by omega) (by omega) ?_
      rintro σ' ⟨y1, y2, y3, y4, y5, y6⟩
      rw [ed] at y2 y4
      refine hend σ' ?_
      have z114 : σ' 114 = σ 114 := by rw [y1.cell 114 (by decide), e114]
      have z0 : σ' 115 (1400 * p + n) = σ 115 (1400 * p + n) - min w (σ 115 (1400 * p + n)) := by
        rw [y3 _ (Or.inr (by omega)), x3, fu_eq]
      unfold mback
      rw [mpf_succ (by omega), mpf_succ (by omega), List.reverse_append, List.reverse_cons, List.reverse_nil, List.nil_append, List.singleton_append, gr_c, if_pos (show fA (σ 114 (1400 * p + n)) = true from rfl)]
      rw [x1] at y2 y4
      refine ⟨(x2.mo (by decide) (by decide)).tr y1, ?_, fun j hj => ?_, ?_, y5, by omega⟩
      · rw [y2, z114, z0, List.reverse_cons]
      · rw [y3 j (by omega), x3, fu_ne (by omega)]
      · rw [y4, x4]
        by_cases hb : 0 < min w (σ 115 (1400 * p + n))
        · rw [if_pos hb, layAll_cons]
        · rw [if_neg hb, lay, if_pos (by omega)]
