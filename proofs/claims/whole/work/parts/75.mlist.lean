/-! only persons that there are; the order of lines -/
theorem lay_lt {l : MP} {o s n : Int} (h : ∀ q ∈ l, q.1 < n) (ho : 0 < s → o < n) : ∀ q ∈ lay l o s, q.1 < n := by
  unfold lay
  split
  · exact h
  · rename_i hs
    rcases List.eq_nil_or_concat l with e | ⟨a, q, e⟩
    · rw [e, layR_nil]
      intro x hx
      rw [List.mem_singleton.mp hx]
      exact ho (by omega)
    · rw [e, List.concat_eq_append] at h ⊢
      have h2 := h q (List.mem_append.mpr (Or.inr List.mem_cons_self))
      rw [layR_app]
      intro x hx
      rcases List.mem_append.mp hx with hx | hx
      · exact h x (List.mem_append.mpr (Or.inl hx))
      · split at hx
        · rw [List.mem_singleton.mp hx]; exact h2
        · rcases List.mem_cons.mp hx with e | e
          · rw [e]; exact h2
          · rw [List.mem_singleton.mp e]; exact ho (by omega)
theorem layAll_lt {n : Int} : ∀ {r l : MP}, (∀ q ∈ l, q.1 < n) → (∀ q ∈ r, 0 < q.2 → q.1 < n) → ∀ q ∈ layAll l r, q.1 < n
  | [], _, h, _ => h
  | y :: r, l, h, h2 => by
    rw [layAll_cons]
    exact layAll_lt (lay_lt h (h2 y List.mem_cons_self)) (fun q hq => h2 q (List.mem_cons_of_mem _ hq))
theorem mact_MN {C : AS} {F : FD} {t k i : Int} {fo : Int → Int} {m : MS} {n : Nat} (hm : MI k m) (hl : lv C i) (hln : lvn C n i) (hmn : MN n m) : MN n (mact C F t fo i m) := by
  obtain ⟨l1, l2, l3, l4, l5, l6, l7⟩ := hl
  obtain ⟨m1, m2⟩ := hmn
  have lh := l7 _ l3.1 l3.2
  have hhn := hln.2 _ l3.1 l3.2
  have hP := m1 _ l3.1 l3.2
  unfold mact
  by_cases htk : tkD (C 8 i) = true
  · rw [if_pos htk]
    have hkd := tkD_iff.mp htk
    by_cases hs : psum (m.1 (C 9 i)) < C 11 i
    · rw [if_pos hs]; exact ⟨m1, m2⟩
    · rw [if_neg hs]
      obtain ⟨t1, t2, t3, t4, t5, t6, t7⟩ := tw_ok (F := F) (t := t) (fo := fo) hm ⟨l1, l2, l3, l4, l5, l6, l7⟩ hs
      obtain ⟨r, hr⟩ : ∃ r, r = twF C F t fo i m := ⟨_, rfl⟩
      rw [← hr] at t1 t2 t3 t4 t5 t6 t7 ⊢
      have per : ∀ {a : MP}, (∀ x ∈ a, x.1 ∈ (m.1 (C 9 i)).map Prod.fst) → ∀ x ∈ a, x.1 < n := fun ha x hx => by
        obtain ⟨y, hy, e⟩ := List.mem_map.mp (ha x hx)
        rw [← e]
        exact hP y hy
      have p1 : ∀ x ∈ r.1, x.1 < n := per (fun x hx => by rw [← t6]; exact List.mem_map.mpr ⟨x, hx, rfl⟩)
      have p2 : ∀ x ∈ r.2, x.1 < n := per (fun x hx => (t2 x hx).2)
      have one : ∀ p : Int, 0 ≤ p → p < 10 → ∀ q ∈ fuP m.1 (C 9 i) (layAll [] r.1) p, q.1 < n := fun p a b => by
        unfold fuP
        split
        · exact layAll_lt (fun q hq => by cases hq) (fun q hq _ => p1 q hq)
        · exact m1 p a b
      have z : ∀ x : Int, n ≤ x → pof x r.2 = 0 := fun x hx => pof_zero (fun q hq => by have := p2 q hq; omega)
      by_cases k1 : C 8 i = 1
      · rw [if_pos k1]
        have lq := l5 (by omega)
        refine ⟨fun p a b => ?_, m2⟩
        show ∀ q ∈ fuP _ _ _ p, q.1 < n
        unfold fuP
        by_cases ee : p = C 10 i
        · rw [if_pos ee]
          refine layAll_lt (m1 _ lq.1 lq.2) (fun q hq _ => ?_)
          obtain ⟨x, hx, rfl⟩ := List.mem_map.mp hq
          dsimp only
          split
          · exact hln.2 _ lq.1 lq.2
          · exact p2 x hx
        · rw [if_neg ee]; exact one p a b
      · rw [if_neg k1]
        by_cases k2 : C 8 i = 2
        · rw [if_pos k2]; exact ⟨one, m2⟩
        · rw [if_neg k2]
          refine ⟨one, fun kk o a b c d => ?_⟩
          show addR m.2.1 (10 * C 10 i) (fun x => pof x r.2) (10 * kk + o) = 0
          have lq := l5 (by omega)
          unfold addR
          rw [m2 kk o a b c d]
          split
          · dsimp only
            rw [z _ (by omega)]; rfl
          · rfl
  · rw [if_neg htk]
    by_cases k0 : C 8 i = 0
    · rw [if_pos k0]
      refine ⟨fun p a b => ?_, m2⟩
      show ∀ q ∈ fuP _ _ _ p, q.1 < n
      unfold fuP
      split
      · exact lay_lt hP (fun _ => hln.1 (Or.inl k0))
      · exact m1 p a b
    · rw [if_neg k0]
      by_cases k4 : C 8 i = 4
      · rw [if_pos k4]
        have lq := l5 (by omega)
        refine ⟨fun p a b => ?_, fun kk o a b c d => ?_⟩
        · show ∀ q ∈ fuP _ _ _ p, q.1 < n
          unfold fuP
          split
          · refine layAll_lt hP (fun q hq h0 => ?_)
            obtain ⟨x, a1, b1, rfl⟩ := rl_mem.mp hq
            by_cases hx : x < n
            · exact hx
            · exfalso
              dsimp only at h0
              have wz : ∀ x : Int, 0 ≤ x → (n : Int) ≤ x → x < 10 → shF C i m x = 0 := fun x _ u v => m2 (C 10 i) x lq.1 lq.2 u v
              have wb : ∀ x : Int, 0 ≤ x → x < (10 : Nat) → 0 ≤ shF C i m x := fun x a b => ((hm.2.2.2 (10 * C 10 i + x) (by omega) (by omega)).1).1
              have e : gnF C F t i m x = 0 := by
                unfold gnF gaiF
                split
                · exact pq_zero (wz x a1 (by omega) b1)
                · rw [if_neg (by omega)]
                  split
                  · rfl
                  · exact pq_zero (by rw [fu_ne (by omega)]; exact wz x a1 (by omega) b1)
              omega
          · exact m1 p a b
        · show (if 10 * C 10 i ≤ 10 * kk + o ∧ 10 * kk + o < 10 * C 10 i + 10 then 0 else m.2.1 (10 * kk + o)) = 0
          split
          · rfl
          · exact m2 kk o a b c d
      · rw [if_neg k4]
        have k5 : C 8 i = 5 := by
          by_cases k5 : C 8 i = 5
          · exact k5
          · exact absurd (tkD_iff.mpr (by omega)) htk
        refine ⟨fun p a b => ?_, m2⟩
        show ∀ q ∈ fuP _ _ _ p, q.1 < n
        unfold fuP
        split
        · exact lay_lt (lay_lt hP (fun _ => hln.1 (Or.inr k5))) (fun _ => hhn)
        · exact m1 p a b
theorem m0_MN {n : Nat} : MN n m0 := ⟨fun _ _ _ q hq => (by cases hq), fun _ _ _ _ _ _ => rfl⟩
theorem mpl_ok {C : AS} {F : FD} {t : Int} {fo : Int → Int} {n : Nat} : ∀ {is : List Int} {k : Int} {m : MS}, MI k m → MN n m → k + is.length ≤ 100 → (∀ i ∈ is, lv C i ∧ lvn C n i) → MI (k + is.length) (mpl C F t fo is m) ∧ MN n (mpl C F t fo is m)
  | [], k, m, hm, hn, _, _ => by
    rw [show k + (([] : List Int).length : Int) = k by simp]
    exact ⟨hm, hn⟩
  | i :: r, k, m, hm, hn, hk, hl => by
    rw [List.length_cons] at hk ⊢
    obtain ⟨h1, h2⟩ := hl i List.mem_cons_self
    have := mpl_ok (C := C) (F := F) (t := t) (fo := fo) (is := r) (k := k + 1) (m := mact C F t fo i m) (mact_MI hm (by omega) h1) (mact_MN hm h1 h2 hn) (by omega) (fun x hx => hl x (List.mem_cons_of_mem _ hx))
    rw [show k + ((r.length + 1 : Nat) : Int) = k + 1 + r.length by omega]
    exact this
theorem mpl_app {C : AS} {F : FD} {t : Int} {fo : Int → Int} : ∀ {a b : List Int} {m : MS}, mpl C F t fo (a ++ b) m = mpl C F t fo b (mpl C F t fo a m)
  | [], _, _ => rfl
  | _ :: r, b, m => by rw [List.cons_append, mpl, mpl, mpl_app]
/-- one line is ahead of another -/
def ahd (C : AS) (a b : Int) : Prop := C 13 a < C 13 b ∨ (C 13 a = C 13 b ∧ (C 14 a < C 14 b ∨ (C 14 a = C 14 b ∧ a < b)))
theorem ahd_irr {C : AS} {a : Int} : ¬ ahd C a a := by unfold ahd; omega
theorem ahd_asy {C : AS} {a b : Int} (h : ahd C a b) : ¬ ahd C b a := by unfold ahd at h ⊢; omega
theorem ahd_tr {C : AS} {a b c : Int} (h : ahd C a b) (h2 : ahd C b c) : ahd C a c := by unfold ahd at h h2 ⊢; omega
theorem ahd_tot {C : AS} {a b : Int} (h : a ≠ b) : ahd C a b ∨ ahd C b a := by unfold ahd; omega
theorem srt_eq {C : AS} : ∀ {l l' : List Int}, l.Pairwise (ahd C) → l'.Pairwise (ahd C) → (∀ x, x ∈ l ↔ x ∈ l') → l = l'
  | [], [], _, _, _ => rfl
  | [], b :: l', _, _, h => absurd ((h b).mpr List.mem_cons_self) (by simp)
  | a :: l, [], _, _, h => absurd ((h a).mp List.mem_cons_self) (by simp)
  | a :: l, b :: l', p, p', h => by
    have q1 := List.pairwise_cons.mp p
    have q2 := List.pairwise_cons.mp p'
    have e : a = b := by
      rcases List.mem_cons.mp ((h a).mp List.mem_cons_self) with e | e
      · exact e
      · rcases List.mem_cons.mp ((h b).mpr List.mem_cons_self) with e2 | e2
        · exact e2.symm
        · exact absurd (q1.1 b e2) (ahd_asy (q2.1 a e))
    subst e
    congr 1
    refine srt_eq q1.2 q2.2 (fun x => ⟨fun hx => ?_, fun hx => ?_⟩)
    · rcases List.mem_cons.mp ((h x).mp (List.mem_cons_of_mem _ hx)) with e | e
      · rw [e] at hx; exact absurd (q1.1 a hx) ahd_irr
      · exact e
    · rcases List.mem_cons.mp ((h x).mpr (List.mem_cons_of_mem _ hx)) with e | e
      · rw [e] at hx; exact absurd (q2.1 a hx) ahd_irr
      · exact e
/-- the class's lines stand sorted -/
def SI (C : AS) : Prop := (rl (C 7 11) (C 18)).Pairwise (ahd C) ∧ ∀ x, x ∈ rl (C 7 11) (C 18) ↔ 0 ≤ x ∧ x < C 7 11
theorem lst_srt {C : AS} {d t : Int} (h : SI C) : (lst C d t (C 7 11)).Pairwise (ahd C) := List.Pairwise.filter _ h.1
theorem lst_in {C : AS} {d t x : Int} (h : SI C) : x ∈ lst C d t (C 7 11) ↔ (0 ≤ x ∧ x < C 7 11) ∧ knw C t x = true ∧ C 13 x ≤ d := by
  unfold lst
  rw [List.mem_filter, h.2]
  simp
def mrow (σ : AS) : List Int := rl (σ 82 63) (σ 126)
/-- what the model lists of lines 0 .. k - 1 -/
def mlst (C : AS) (d t k : Int) (σ0 σ : AS) : Prop := Fr [126] [(82, 63)] σ0 σ ∧ (0 ≤ σ 82 63 ∧ σ 82 63 ≤ k) ∧ (mrow σ).Pairwise (ahd C) ∧ ∀ x, x ∈ mrow σ ↔ (0 ≤ x ∧ x < k) ∧ knw C t x = true ∧ C 13 x ≤ d
theorem sp_mKnown {Ln : Int} {d : Nat} {C σ : AS} {i t : Int} (hB : BK C) (hf : Fr wkX wkF C σ) (h : 0 ≤ i ∧ i < 100) : am_M Ln (d + 1) 203 [vR 82, vI i, vI t] σ (am_rI fun r σ' => r = (if knw C t i = true then 1 else 0) ∧ σ' = σ) := by
  obtain ⟨⟨b84, b85, b86, b87, b88, b89, b90, b91, b92, b93, b94, b95⟩, -, -⟩ := hB
  have e93 : σ 93 = C 16 := by rw [hf.cell 93 (by decide), b93]
  have e94 : σ 94 = C 17 := by rw [hf.cell 94 (by decide), b94]
  refine vm_X12_isKnown _ _ _ ⟨h, ?_⟩
  rw [e93, e94]
  unfold knw
  refine ⟨fun h1 => ⟨am_b0, ?_, rfl⟩, fun h1 => ⟨h, fun h2 => ⟨am_b1, ?_, rfl⟩, fun h2 => ⟨h, fun h3 => ⟨am_b0, ?_, rfl⟩, fun h3 => ⟨am_b1, ?_, rfl⟩⟩⟩⟩
  · rw [decide_eq_false (by omega)]; rfl
  · rw [decide_eq_true (by omega)]; rfl
  · rw [decide_eq_false (by omega)]; rfl
  · rw [decide_eq_true (by omega)]; rfl
theorem sp_mAhead {Ln : Int} {d : Nat} {C σ : AS} {a b : Int} (hB : BK C) (hf : Fr wkX wkF C σ) (ha : 0 ≤ a ∧ a < 100) (hb : 0 ≤ b ∧ b < 100) : am_M Ln (d + 1) 204 [vR 82, vI a, vI b] σ (am_rI fun r σ' => (r = 0 → ¬ ahd C a b) ∧ (r ≠ 0 → ahd C a b) ∧ σ' = σ) := by
  obtain ⟨⟨b84, b85, b86, b87, b88, b89, b90, b91, b92, b93, b94, b95⟩, -, -⟩ := hB
  have e90 : σ 90 = C 13 := by rw [hf.cell 90 (by decide), b90]
  have e91 : σ 91 = C 14 := by rw [hf.cell 91 (by decide), b91]
  refine vm_X12_isAhead _ _ _ ⟨ha, hb, ?_⟩
  rw [e90, e91]
  unfold ahd
  refine ⟨fun h1 => ⟨ha, hb, fun h2 => ⟨fun h3 => ⟨am_b0, fun _ => by omega, fun q => absurd rfl q, rfl⟩, fun h3 => ⟨am_b1, fun q => absurd q (by omega), fun _ => by omega, rfl⟩⟩, fun h2 => ⟨ha, hb, fun h3 => ⟨am_b0, fun _ => by omega, fun q => absurd rfl q, rfl⟩, fun h3 => ⟨am_b1, fun q => absurd q (by omega), fun _ => by omega, rfl⟩⟩⟩, fun h1 => ⟨ha, hb, fun h3 => ⟨am_b0, fun _ => by omega, fun q => absurd rfl q, rfl⟩, fun h3 => ⟨am_b1, fun q => absurd q (by omega), fun _ => by omega, rfl⟩⟩⟩
