/-! measuring a purse, shares of a thing, forgetting -/
theorem xp_sf {σ : AS} {p : Int} : pj p (xsf σ 0) = xp σ p := by rw [xsf_0]; rfl
theorem pj_nn {σ : AS} {p i : Int} (hT : XT σ) (h0 : 0 ≤ i) : ∀ q ∈ pj p (xsf σ i), 0 ≤ q.2 := by
  intro q hq
  unfold pj at hq
  obtain ⟨x, hx, rfl⟩ := List.mem_map.mp hq
  obtain ⟨j, c0, c1, c2⟩ := rl_mem.mp (List.mem_filter.mp hx).1
  rw [← c2]
  exact (hT.2.1 (i + j) (by omega) (by omega)).2.2.1
theorem XW_T {σ : AS} (h : XW σ) (hs : ∀ p : Int, 0 ≤ p → p < 10 → psum (xp σ p) ≤ 1000000000) (ht : 0 ≤ σ 41 9) : XT σ := by
  refine ⟨h.1, fun i a b => ?_, ht⟩
  have h1 := h.2.1 i a b
  have h2 := xp_le h a b
  have h3 := hs (σ 42 i) h1.1.1 h1.1.2
  exact ⟨h1.1, h1.2.1, by omega, by omega⟩
def xmeas (σ : AS) (p i acc r : Int) (σ' : AS) : Prop := r = acc + psum (pj p (xsf σ i)) ∧ Fr [51] [] σ σ' ∧ ∀ o : Int, 0 ≤ o → o < 10 → σ' 51 o = σ 51 o + pof o (pj p (xsf σ i))
theorem lp_measure {Ln : Int} {d : Nat} {p : Int} : ∀ (m : Nat) (σ : AS) (i acc : Int), XT σ → 0 ≤ acc → acc + psum (pj p (xsf σ i)) ≤ 1000000000 → (∀ x : Int, 0 ≤ x → x < 10 → 0 ≤ σ 51 x ∧ σ 51 x ≤ acc) → 0 ≤ i → (σ 41 3 - i).toNat = m →
    am_E Ln (d + 1) 84 12 [vR 41, vI p, vI acc, vI i] [] σ (am_rI (xmeas σ p i acc)) := by
  intro m
  induction m with
  | zero =>
    intro σ i acc hT ha hs hg h0 hm
    refine vl_X9_measure_12 _ _ _ _ ⟨fun hz => ⟨?_, Fr.rf, fun o _ _ => ?_⟩, fun h => absurd (by omega) h⟩
    · rw [xsf_nil hz]; simp [pj_nil, psum]
    · rw [xsf_nil hz]; simp [pj_nil, pof]
  | succ m ih =>
    intro σ i acc hT ha hs hg h0 hm
    have hlt : i < σ 41 3 := by omega
    have hsz := hT.1
    have hel := hT.2.1 i h0 hlt
    have hnn := psum_nn (pj_nn (p := p) (i := i + 1) hT (by omega))
    rw [xsf_cons hlt, pj_cons] at hs
    refine vl_X9_measure_12 _ _ _ _ ⟨fun h => absurd h (by omega), fun _ => ⟨⟨h0, by omega⟩, fun h1 => ⟨⟨h0, by omega⟩, hel.2.1, ⟨h0, by omega⟩, hel.2.1, ⟨h0, by omega⟩, ?_⟩, fun h1 => ?_⟩⟩
    · rw [if_pos h1, psum] at hs
      dsimp only at hs
      have hg1 := hg (σ 43 i) hel.2.1.1 hel.2.1.2
      rw [w32_id (by omega) (by omega), w32_id (by omega) (by omega), w32_id (by omega) (by omega)]
      have e : ∀ c : Nat, c ≠ 51 → am_up σ 51 (σ 43 i) (σ 51 (σ 43 i) + σ 44 i) c = σ c := fun c hc => am_up_ne hc
      have esf : xsf (am_up σ 51 (σ 43 i) (σ 51 (σ 43 i) + σ 44 i)) (i + 1) = xsf σ (i + 1) := by unfold xsf; rw [e 41 (by decide), e 42 (by decide), e 43 (by decide), e 44 (by decide)]
      refine am_EI (ih _ (i + 1) (acc + σ 44 i) ?_ (by omega) (by rw [esf]; omega) (fun x a b => ?_) (by omega) (by rw [e 41 (by decide)]; omega)) ?_
      · unfold XT
        rw [e 41 (by decide), e 42 (by decide), e 43 (by decide), e 44 (by decide)]
        exact hT
      · have := hg x a b
        rw [am_up_eq]
        split
        · rename_i e; rw [e] at this; omega
        · omega
      · rintro r s ⟨k1, k2, k3⟩
        rw [esf] at k1 k3
        refine ⟨?_, (Fr.up Fr.rf (Or.inl (by decide))).tr k2, fun o a b => ?_⟩
        · rw [k1, xsf_cons hlt, pj_cons, if_pos h1, psum]; dsimp only; omega
        · rw [k3 o a b, xsf_cons hlt, pj_cons, if_pos h1, pof, am_up_eq]
          dsimp only
          by_cases e : o = σ 43 i
          · rw [if_pos e, if_pos e.symm, e]; omega
          · rw [if_neg e, if_neg (fun q => e q.symm)]; omega
    · rw [if_neg h1] at hs
      rw [w32_id (by omega) (by omega)]
      refine am_EI (ih σ (i + 1) acc hT ha hs hg (by omega) (by omega)) ?_
      rintro r s ⟨k1, k2, k3⟩
      refine ⟨?_, k2, fun o a b => ?_⟩
      · rw [k1, xsf_cons hlt, pj_cons, if_neg h1]
      · rw [k3 o a b, xsf_cons hlt, pj_cons, if_neg h1]
theorem sp_measure {Ln : Int} {d : Nat} {σ : AS} {p : Int} (hT : XT σ) (hs : psum (xp σ p) ≤ 1000000000) : am_M Ln (d + 2) 84 [vR 41, vI p] σ (am_rI fun r σ' => r = psum (xp σ p) ∧ Fr [51] [] σ σ' ∧ ∀ o : Int, 0 ≤ o → o < 10 → σ' 51 o = pof o (xp σ p)) := by
  refine vm_X9_measure _ _ (cV (sp_fill_51 σ 0) ?_)
  rintro s ⟨f, rfl, hf⟩
  have esf : xsf (zc σ 51 f) 0 = xsf σ 0 := rfl
  refine am_EI (lp_measure _ (zc σ 51 f) 0 0 hT (by omega) (by rw [esf, xp_sf]; omega) (fun x a b => ?_) (by omega) rfl) ?_
  · rw [zc_eq, hf x a b]; omega
  · rintro r s ⟨k1, k2, k3⟩
    rw [esf, xp_sf] at k1 k3
    refine ⟨by omega, (Fr.cl Fr.rf (by decide)).tr k2, fun o a b => ?_⟩
    rw [k3 o a b, zc_eq, hf o a b]
    omega
theorem sp_held {Ln : Int} {d : Nat} {σ : AS} {p o : Int} (hT : XT σ) (hs : psum (xp σ p) ≤ 1000000000) : am_M Ln (d + 3) 85 [vR 41, vI p, vI o] σ (am_rI fun r σ' => r = (if 0 ≤ o ∧ o < 10 then pof o (xp σ p) else psum (xp σ p)) ∧ Fr [51] [] σ σ') := by
  refine vm_X9_held _ _ _ (cI (sp_measure hT hs) ?_)
  rintro r s ⟨k1, k2, k3⟩
  refine ⟨fun h => ⟨?_, k2⟩, fun h => ⟨fun h2 => ⟨?_, k2⟩, fun h2 => ⟨⟨by omega, by omega⟩, ?_, k2⟩⟩⟩
  · rw [if_neg (by omega)]; exact k1
  · rw [if_neg (by omega)]; exact k1
  · rw [if_pos ⟨by omega, by omega⟩]; exact k3 o (by omega) (by omega)
theorem sp_forgetTaken {Ln : Int} {d : Nat} (σ : AS) : am_M Ln (d + 2) 75 [vR 41] σ (am_rV fun σ' => σ' 41 9 = 0 ∧ Fr [50] [(41, 9)] σ σ' ∧ ∀ o : Int, 0 ≤ o → o < 10 → σ' 50 o = 0) := by
  refine vm_X9_forgetTaken _ (cV (sp_fill_50 _ 0) ?_)
  rintro s ⟨f, rfl, hf⟩
  refine ⟨?_, Fr.cl (Fr.up Fr.rf (Or.inr (by decide))) (by decide), fun o a b => by rw [zc_eq]; exact hf o a b⟩
  rw [zc_ne (by decide), am_up_eq, if_pos rfl]
theorem sp_clear {Ln : Int} {d : Nat} (σ : AS) : am_M Ln (d + 3) 73 [vR 41] σ (am_rV fun σ' => σ' 41 3 = 0 ∧ σ' 41 9 = 0 ∧ Fr [45, 46, 47, 50] [(41, 3), (41, 9)] σ σ' ∧ (∀ o : Int, 0 ≤ o → o < 10 → σ' 50 o = 0 ∧ σ' 45 o = -1) ∧ ∀ o : Int, 0 ≤ o → o < 100 → σ' 46 o = 0 ∧ σ' 47 o = 0) := by
  refine vm_X9_clear _ (cV (sp_fill_45 _ (-1)) ?_)
  rintro s1 ⟨f1, rfl, h1⟩
  refine cV (sp_fill_46 _ 0) ?_
  rintro s2 ⟨f2, rfl, h2⟩
  refine cV (sp_fill_47 _ 0) ?_
  rintro s3 ⟨f3, rfl, h3⟩
  refine cV (sp_forgetTaken _) ?_
  rintro s4 ⟨k1, k2, k3⟩
  have e : ∀ c : Nat, c ≠ 41 → c ≠ 50 → s4 c = zc (zc (zc (am_up σ 41 3 0) 45 f1) 46 f2) 47 f3 c := fun c hc hd => k2.cell c ⟨by simpa using hd, by simpa using hc⟩
  refine ⟨?_, k1, ?_, fun o a b => ⟨k3 o a b, ?_⟩, fun o a b => ⟨?_, ?_⟩⟩
  · rw [k2.fld 41 3 (by decide)]
    rfl
  · refine Fr.tr (σ1 := zc (zc (zc (am_up σ 41 3 0) 45 f1) 46 f2) 47 f3) ?_ (k2.mo (by decide) (by decide))
    exact Fr.cl (Fr.cl (Fr.cl (Fr.up Fr.rf (Or.inr (by decide))) (by decide)) (by decide)) (by decide)
  · rw [e 45 (by decide) (by decide)]; exact h1 o a b
  · rw [e 46 (by decide) (by decide)]; exact h2 o a b
  · rw [e 47 (by decide) (by decide)]; exact h3 o a b
theorem sp_receive {Ln : Int} {d : Nat} {σ : AS} {p o s : Int} (h : XW σ) (hp : 0 ≤ p ∧ p < 10) (ho : 0 ≤ o ∧ o < 10) (hz : σ 41 3 < 1010) (hB : psum (xp σ p) ≤ 1000000000) (hs : 0 ≤ s ∧ s ≤ 1000000000) (hg : 0 ≤ σ 50 o ∧ σ 50 o ≤ 1000000000) :
    am_M Ln (d + 2) 77 [vR 41, vI p, vI o, vI s] σ (am_rV fun σ' => ∃ σ1, xput σ p o s σ1 ∧ σ' = am_up σ1 50 o (σ 50 o + s)) := by
  refine vm_X9_receive _ _ _ _ (cV (sp_put h hp ho hz hB hs.2) ?_)
  intro s1 k
  have e : s1 50 = σ 50 := k.2.1.cell 50 (by decide)
  refine ⟨ho, ho, s1, k, ?_⟩
  rw [e, w32_id (by omega) (by omega)]
