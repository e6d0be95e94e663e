/-! knows, strike, debt, choose, look, count -/
theorem fu_lv {C C' : AS} {i : Int} (h : lv C i) : lv C i := h
section UP
variable {Ln : Int} {σ : AS} {n : Nat} {G : Int → GF}
theorem pr_knows (hI : INV σ n G) (a b dy : Int) : PR Ln 102 [vR 1, vI a, vI b, vI dy] 176 [vR 82, vI a, vI b, vI dy] σ := by
  obtain ⟨h1, h2, h3, h4, h5, h6, h7, h8⟩ := id hI
  have hB := h1.1
  have e8 : σ 82 8 = σ 19 4 := hB.2.2.2.2.2.2.2.2.2.1
  have e2 : σ 82 2 = σ 1 10 := hB.2.2.2.1
  obtain ⟨b109, b110, b111, b112⟩ := hB.2.1
  have hnn := INV_n hI
  have hz0 := h4.2.2.2.1
  have hz1 := h1.2.2.2.1
  obtain ⟨z, hz⟩ : ∃ z, z = σ 19 4 := ⟨_, rfl⟩
  rw [← hz] at e8 hz0 hz1
  obtain ⟨ρ, hρ⟩ : ∃ ρ, ρ = am_up (am_up (am_up (am_up (am_up σ 20 z a) 21 z b) 22 z dy) 23 z (σ 1 10)) 19 4 (z + 1) := ⟨_, rfl⟩
  obtain ⟨τ, hτ⟩ : ∃ τ, τ = am_up (am_up (am_up (am_up (am_up ρ 109 z a) 110 z b) 111 z dy) 112 z (σ 1 10)) 82 8 (z + 1) := ⟨_, rfl⟩
  have fρ : Fr [20, 21, 22, 23] [(19, 4)] σ ρ := by rw [hρ]; exact Fr.up (Fr.up (Fr.up (Fr.up (Fr.up Fr.rf (Or.inl (by decide))) (Or.inl (by decide))) (Or.inl (by decide))) (Or.inl (by decide))) (Or.inr (by decide))
  have fτ : Fr [20, 21, 22, 23, 109, 110, 111, 112] [(19, 4), (82, 8)] σ τ := by rw [hτ]; exact Fr.up (Fr.up (Fr.up (Fr.up (Fr.up (fρ.mo (by decide) (by decide)) (Or.inl (by decide))) (Or.inl (by decide))) (Or.inl (by decide))) (Or.inl (by decide))) (Or.inr (by decide))
  have q20 : ∀ j, ρ 20 j = if j = z then a else σ 20 j := fun j => by rw [hρ, am_up_ne (by decide), am_up_ne (by decide), am_up_ne (by decide), am_up_ne (by decide), am_up_eq]
  have q21 : ∀ j, ρ 21 j = if j = z then b else σ 21 j := fun j => by rw [hρ, am_up_ne (by decide), am_up_ne (by decide), am_up_ne (by decide), am_up_eq, am_up_ne (by decide)]
  have q22 : ∀ j, ρ 22 j = if j = z then dy else σ 22 j := fun j => by rw [hρ, am_up_ne (by decide), am_up_ne (by decide), am_up_eq, am_up_ne (by decide), am_up_ne (by decide)]
  have q23 : ∀ j, ρ 23 j = if j = z then σ 1 10 else σ 23 j := fun j => by rw [hρ, am_up_ne (by decide), am_up_eq, am_up_ne (by decide), am_up_ne (by decide), am_up_ne (by decide)]
  have c1 : ∀ c ∈ [20, 21, 22, 23], τ c = ρ c := by
    intro c hc
    simp only [List.mem_cons, List.not_mem_nil, or_false] at hc
    rw [hτ, am_up_ne (by omega), am_up_ne (by omega), am_up_ne (by omega), am_up_ne (by omega), am_up_ne (by omega)]
  have t109 : τ 109 = τ 20 := by
    funext j
    rw [c1 20 (by decide), q20, hτ, am_up_ne (by decide), am_up_ne (by decide), am_up_ne (by decide), am_up_ne (by decide), am_up_eq, fρ.cell 109 (by decide), b109]
  have t110 : τ 110 = τ 21 := by
    funext j
    rw [c1 21 (by decide), q21, hτ, am_up_ne (by decide), am_up_ne (by decide), am_up_ne (by decide), am_up_eq, am_up_ne (by decide), fρ.cell 110 (by decide), b110]
  have t111 : τ 111 = τ 22 := by
    funext j
    rw [c1 22 (by decide), q22, hτ, am_up_ne (by decide), am_up_ne (by decide), am_up_eq, am_up_ne (by decide), am_up_ne (by decide), fρ.cell 111 (by decide), b111]
  have t112 : τ 112 = τ 23 := by
    funext j
    rw [c1 23 (by decide), q23, hτ, am_up_ne (by decide), am_up_eq, am_up_ne (by decide), am_up_ne (by decide), am_up_ne (by decide), fρ.cell 112 (by decide), b112]
  have t194 : τ 19 4 = z + 1 := by rw [hτ, am_up_ne (by decide), am_up_ne (by decide), am_up_ne (by decide), am_up_ne (by decide), am_up_ne (by decide), hρ, am_up_eq, if_pos rfl]
  have t828 : τ 82 8 = z + 1 := by rw [hτ, am_up_eq, if_pos rfl]
  have fw : Fr wkX wkF σ σ := Fr.rf
  refine pr_up (c := (0 ≤ a ∧ a < σ 1 11) ∧ (0 ≤ b ∧ b < σ 1 11) ∧ a ≠ b ∧ (0 ≤ dy ∧ dy ≤ 3999) ∧ z < 100) (v := 1) (w := 0) (σu := ρ) (σw := τ) hI (fρ.cell 0 (by decide)) (fτ.cell 0 (by decide)) ?_ (fun hc => ?_) (fun hc => ?_) (fun hc => ⟨n, G, ?_⟩)
  · refine vm_X11_knows _ _ _ _ (cG sp_cPerson (fun h => ⟨am_b0, upN (fun q => h q.1)⟩) (fun g1 => cG sp_cPerson (fun h => ⟨am_b0, upN (fun q => h q.2.1)⟩) (fun g2 => ⟨fun h => ⟨am_b0, upN (fun q => q.2.2.1 h)⟩, fun g3 => cG sp_cDay (fun h => ⟨am_b0, upN (fun q => h q.2.2.2.1)⟩) (fun g4 => cI (P := fun r s => am_b r ∧ upF ((0 ≤ a ∧ a < σ 1 11) ∧ (0 ≤ b ∧ b < σ 1 11) ∧ a ≠ b ∧ (0 ≤ dy ∧ dy ≤ 3999) ∧ z < 100) 1 0 σ ρ r s) ?_ (fun r s q => q))⟩)))
    refine vm_X2_add _ _ _ _ _ ?_
    rw [← hz, w32_id (x := z + 1) (by omega) (by omega), ← hρ]
    exact ⟨fun h => ⟨⟨hz0, h⟩, ⟨hz0, h⟩, ⟨hz0, h⟩, ⟨hz0, h⟩, am_b1, am_b1, upY ⟨g1, g2, g3, g4, h⟩⟩, fun h => ⟨am_b0, am_b0, upN (fun q => h q.2.2.2.2)⟩⟩
  · have e4 : ρ 82 8 = z := by rw [fρ.fld 82 8 (by decide), e8]
    have e22 : ρ 82 2 = σ 1 10 := by rw [fρ.fld 82 2 (by decide), e2]
    have e3 : ρ 82 3 = σ 1 11 := by rw [fρ.fld 82 3 (by decide)]; exact hB.2.2.2.2.1
    have per : ∀ x : Int, am_M Ln 999 136 [vR 82, vI x] ρ (am_rI fun r s => r = (if 0 ≤ x ∧ x < σ 1 11 then 1 else 0) ∧ s = ρ) := by
      intro x
      refine sp_mlb (d := 997) (a := x) (lo := 0) (hi := σ 1 11 - 1) (by omega) (fun Q h => vm_X12_isPerson _ _ ?_)
      rw [e3, w32_id (by omega) (by omega)]
      exact h
    refine vm_X12_knows _ _ _ _ ?_
    rw [e4]
    refine ⟨fun h => absurd h (by omega), fun _ => cG (per a) (fun h => absurd hc.1 h) (fun _ => cG (per b) (fun h => absurd hc.2.1 h) (fun _ => ⟨fun h => absurd h hc.2.2.1, fun _ => cG sp_mDay (fun h => absurd hc.2.2.2.1 h) (fun _ => ?_)⟩))⟩
    rw [e4, e22, w32_id (x := z + 1) (by omega) (by omega), ← hτ]
    have rz : 0 ≤ z ∧ z < 100 := ⟨hz0, hc.2.2.2.2⟩
    exact ⟨rz, rz, rz, rz, am_b1, rfl, rfl⟩
  · refine vm_X12_knows _ _ _ _ ?_
    rw [e8]
    exact ⟨fun h => ⟨am_b0, rfl, rfl⟩, fun g5 => cG (sp_mPerson hB fw hnn) (fun h => ⟨am_b0, rfl, rfl⟩) (fun g1 => cG (sp_mPerson hB fw hnn) (fun h => ⟨am_b0, rfl, rfl⟩) (fun g2 => ⟨fun h => ⟨am_b0, rfl, rfl⟩, fun g3 => cG sp_mDay (fun h => ⟨am_b0, rfl, rfl⟩) (fun g4 => absurd ⟨g1, g2, g3, g4, by omega⟩ hc)⟩))⟩
  · refine ⟨OKB_up h1 (BK_up [(109, 20), (110, 21), (111, 22), (112, 23)] [((82, 8), (19, 4))] h1.1 fτ (by decide) (by decide) ?_ (one_mem (by show τ 82 8 = τ 19 4; rw [t194, t828]))) (by rw [fτ.fld 1 11 (by decide)]; exact h1.2.1) (Nat.le_refl n) h1.2.2.1 (by rw [t194]; omega) (fτ.fld 7 11 (by decide)) (fτ.cs _ (by decide)) (by rw [fτ.cell 5 (by decide)]; exact OKB_5 h1), OKD_cg (fτ.cell 13 (by decide)) (fτ.fld 7 11 (by decide)) h2, RB_cg (fτ.cs RBC (by decide)) (fτ.fld 24 14 (by decide)) h3, ?_, TP_cg (fτ.cell 3 (by decide)) (fτ.cell 83 (by decide)) (fτ.fld 2 1 (by decide)) h5, CH_cg (fτ.cell 71 (by decide)) (fτ.cell 129 (by decide)) (fτ.fld 4 2 (by decide)) (fτ.fld 70 4 (by decide)) h6, BA_cg (fτ.cs BAC (by decide)) (fτ.fld 70 6 (by decide)) h7, DE_cg (fτ.cs DEC (by decide)) (fτ.fld 76 3 (by decide)) h8.1, TH_cg (fτ.fld 7 11 (by decide)) (Int.le_of_eq (fτ.fld 1 12 (by decide)).symm) (fτ.cell 8 (by decide)) (fτ.cell 10 (by decide)) (fτ.cell 14 (by decide)) (fτ.cell 15 (by decide)) h8.2⟩
    · intro q hq
      simp only [List.mem_cons, List.not_mem_nil, or_false] at hq
      rcases hq with rfl | rfl | rfl | rfl
      · exact t109
      · exact t110
      · exact t111
      · exact t112
    · obtain ⟨u1, u2, u3, u4, u5, u6, u7⟩ := h4
      unfold NU
      rw [fτ.fld 1 10 (by decide), fτ.fld 4 2 (by decide), fτ.fld 1 12 (by decide), t194, fτ.cell 5 (by decide), fτ.cell 121 (by decide)]
      exact ⟨u1, u2, u3, by omega, u5, u6, u7⟩
theorem pr_strike (hI : INV σ n G) (i : Int) : PR Ln 99 [vR 1, vI i] 149 [vR 82, vI i] σ := by
  obtain ⟨h1, h2, h3, h4, h5, h6, h7, h8⟩ := id hI
  have hB := h1.1
  have e2 : σ 82 2 = σ 1 10 := hB.2.2.2.1
  have e94 : σ 94 = σ 17 := hB.1.2.2.2.2.2.2.2.2.2.2.1
  have hL := h1.2.2.2.2.1
  obtain ⟨τ, hτ⟩ : ∃ τ, τ = am_up (am_up σ 17 i (σ 1 10)) 94 i (σ 1 10) := ⟨_, rfl⟩
  have fτ : Fr [17, 94] [] σ τ := by rw [hτ]; exact Fr.up (Fr.up Fr.rf (Or.inl (by decide))) (Or.inl (by decide))
  have t94 : τ 94 = τ 17 := by
    funext j
    rw [hτ, am_up_eq, am_up_ne (by decide), am_up_ne (by decide), am_up_eq, e94]
  have fw : Fr wkX wkF σ σ := Fr.rf
  refine pr_up (c := (0 ≤ i ∧ i < σ 7 11) ∧ σ 17 i = -1) (v := 1) (w := 0) (σu := am_up σ 17 i (σ 1 10)) (σw := τ) hI (am_up_ne (by decide)) (fτ.cell 0 (by decide)) ?_ (fun hc => ?_) (fun hc => ?_) (fun hc => ⟨n, G, ?_⟩)
  · exact vm_X11_strike _ _ (cG sp_cLine (fun h => ⟨am_b0, upN (fun q => h q.1)⟩) (fun g1 => ⟨⟨g1.1, by omega⟩, fun h => ⟨⟨g1.1, by omega⟩, am_b1, upY ⟨g1, h⟩⟩, fun h => ⟨am_b0, upN (fun q => h q.2)⟩⟩))
  · have e6 : am_up σ 17 i (σ 1 10) 82 6 = σ 7 11 := by rw [am_up_ne (by decide)]; exact hB.2.2.2.2.2.2.2.1
    refine vm_X12_strike _ _ (cG (c := 0 ≤ i ∧ i < σ 7 11) ?_ (fun h => absurd hc.1 h) (fun _ => ?_))
    · refine sp_mlb (d := 997) (a := i) (lo := 0) (hi := σ 7 11 - 1) (by omega) (fun Q h => vm_X12_isLine _ _ ?_)
      rw [e6, w32_id (by omega) (by omega)]
      exact h
    · rw [am_up_ne (by decide), e94, am_up_ne (by decide), e2, ← hτ]
      exact ⟨⟨hc.1.1, by omega⟩, fun _ => ⟨⟨hc.1.1, by omega⟩, am_b1, rfl, rfl⟩, fun h => absurd hc.2 h⟩
  · refine vm_X12_strike _ _ (cG (sp_mLine hB fw hL) (fun h => ⟨am_b0, rfl, rfl⟩) (fun g1 => ?_))
    rw [e94]
    exact ⟨⟨g1.1, by omega⟩, fun h => absurd ⟨g1, h⟩ hc, fun h => ⟨am_b0, rfl, rfl⟩⟩
  · exact ⟨OKB_up h1 (BK_up [(94, 17)] [] h1.1 fτ (by decide) (by decide) (one_mem t94) no_mem) (by rw [fτ.fld 1 11 (by decide)]; exact h1.2.1) (Nat.le_refl n) h1.2.2.1 (by rw [fτ.fld 19 4 (by decide)]; exact h1.2.2.2.1) (fτ.fld 7 11 (by decide)) (fτ.cs _ (by decide)) (by rw [fτ.cell 5 (by decide)]; exact OKB_5 h1), OKD_cg (fτ.cell 13 (by decide)) (fτ.fld 7 11 (by decide)) h2, RB_cg (fτ.cs RBC (by decide)) (fτ.fld 24 14 (by decide)) h3, NU_cg (fτ.cell 5 (by decide)) (fτ.cell 121 (by decide)) (fτ.fls _ (by decide)) h4, TP_cg (fτ.cell 3 (by decide)) (fτ.cell 83 (by decide)) (fτ.fld 2 1 (by decide)) h5, CH_cg (fτ.cell 71 (by decide)) (fτ.cell 129 (by decide)) (fτ.fld 4 2 (by decide)) (fτ.fld 70 4 (by decide)) h6, BA_cg (fτ.cs BAC (by decide)) (fτ.fld 70 6 (by decide)) h7, DE_cg (fτ.cs DEC (by decide)) (fτ.fld 76 3 (by decide)) h8.1, TH_cg (fτ.fld 7 11 (by decide)) (Int.le_of_eq (fτ.fld 1 12 (by decide)).symm) (fτ.cell 8 (by decide)) (fτ.cell 10 (by decide)) (fτ.cell 14 (by decide)) (fτ.cell 15 (by decide)) h8.2⟩
theorem pr_debt (hI : INV σ n G) (a b s r : Int) : PR Ln 117 [vR 1, vI a, vI b, vI s, vI r] 237 [vR 82, vI a, vI b, vI s, vI r] σ := by
  obtain ⟨h1, h2, h3, h4, h5, h6, h7, h8⟩ := id hI
  have hB := h1.1
  have e9 : σ 82 9 = σ 76 3 := hB.2.2.2.2.2.2.2.2.2.2.1
  have hnn := INV_n hI
  have hn := h1.2.1
  obtain ⟨d1, ⟨d2, d3, d4⟩, d5⟩ := id h8.1
  obtain ⟨z, hz⟩ : ∃ z, z = σ 76 3 := ⟨_, rfl⟩
  rw [← hz] at e9 d1 d5
  obtain ⟨ρ, hρ⟩ : ∃ ρ, ρ = am_up (am_up (am_up (am_up σ 77 z a) 78 z s) 79 z r) 76 3 (z + 1) := ⟨_, rfl⟩
  obtain ⟨τ, hτ⟩ : ∃ τ, τ = am_up (am_up (am_up (am_up (am_up ρ 134 z a) 135 z b) 136 z s) 137 z r) 82 9 (z + 1) := ⟨_, rfl⟩
  have fρ : Fr [77, 78, 79] [(76, 3)] σ ρ := by rw [hρ]; exact Fr.up (Fr.up (Fr.up (Fr.up Fr.rf (Or.inl (by decide))) (Or.inl (by decide))) (Or.inl (by decide))) (Or.inr (by decide))
  have fτ : Fr [77, 78, 79, 134, 135, 136, 137] [(76, 3), (82, 9)] σ τ := by rw [hτ]; exact Fr.up (Fr.up (Fr.up (Fr.up (Fr.up (fρ.mo (by decide) (by decide)) (Or.inl (by decide))) (Or.inl (by decide))) (Or.inl (by decide))) (Or.inl (by decide))) (Or.inr (by decide))
  have q77 : ∀ j, ρ 77 j = if j = z then a else σ 77 j := fun j => by rw [hρ, am_up_ne (by decide), am_up_ne (by decide), am_up_ne (by decide), am_up_eq]
  have q78 : ∀ j, ρ 78 j = if j = z then s else σ 78 j := fun j => by rw [hρ, am_up_ne (by decide), am_up_ne (by decide), am_up_eq, am_up_ne (by decide)]
  have q79 : ∀ j, ρ 79 j = if j = z then r else σ 79 j := fun j => by rw [hρ, am_up_ne (by decide), am_up_eq, am_up_ne (by decide), am_up_ne (by decide)]
  have c1 : ∀ c ∈ [77, 78, 79], τ c = ρ c := by
    intro c hc
    simp only [List.mem_cons, List.not_mem_nil, or_false] at hc
    rw [hτ, am_up_ne (by omega), am_up_ne (by omega), am_up_ne (by omega), am_up_ne (by omega), am_up_ne (by omega)]
  have t134 : τ 134 = τ 77 := by
    funext j
    rw [c1 77 (by decide), q77, hτ, am_up_ne (by decide), am_up_ne (by decide), am_up_ne (by decide), am_up_ne (by decide), am_up_eq, fρ.cell 134 (by decide), d2]
  have t136 : τ 136 = τ 78 := by
    funext j
    rw [c1 78 (by decide), q78, hτ, am_up_ne (by decide), am_up_ne (by decide), am_up_eq, am_up_ne (by decide), am_up_ne (by decide), fρ.cell 136 (by decide), d3]
  have t137 : τ 137 = τ 79 := by
    funext j
    rw [c1 79 (by decide), q79, hτ, am_up_ne (by decide), am_up_eq, am_up_ne (by decide), am_up_ne (by decide), am_up_ne (by decide), fρ.cell 137 (by decide), d4]
  have t763 : τ 76 3 = z + 1 := by rw [hτ, am_up_ne (by decide), am_up_ne (by decide), am_up_ne (by decide), am_up_ne (by decide), am_up_ne (by decide), hρ, am_up_eq, if_pos rfl]
  have t829 : τ 82 9 = z + 1 := by rw [hτ, am_up_eq, if_pos rfl]
  have fw : Fr wkX wkF σ σ := Fr.rf
  refine pr_up (c := (0 ≤ a ∧ a < σ 1 11) ∧ (0 ≤ b ∧ b < σ 1 11) ∧ a ≠ b ∧ (1 ≤ s ∧ s ≤ 1000000) ∧ (0 ≤ r ∧ r < 4) ∧ z < 40) (v := z) (w := -1) (σu := ρ) (σw := τ) hI (fρ.cell 0 (by decide)) (fτ.cell 0 (by decide)) ?_ (fun hc => ?_) (fun hc => ?_) (fun hc => ⟨n, G, ?_⟩)
  · refine vm_X11_debt _ _ _ _ _ (cG sp_cPerson (fun h => upN (fun q => h q.1)) (fun g1 => cG sp_cPerson (fun h => upN (fun q => h q.2.1)) (fun g2 => ⟨fun h => upN (fun q => q.2.2.1 h), fun g3 => cG sp_cSum (fun h => upN (fun q => h q.2.2.2.1)) (fun g4 => ⟨fun h => upN (fun q => by omega), fun g5 => ⟨fun g6 => cI (P := fun rr ss => upF ((0 ≤ a ∧ a < σ 1 11) ∧ (0 ≤ b ∧ b < σ 1 11) ∧ a ≠ b ∧ (1 ≤ s ∧ s ≤ 1000000) ∧ (0 ≤ r ∧ r < 4) ∧ z < 40) z (-1) σ ρ rr ss) ?_ (fun r s q => q), fun h => upN (fun q => by omega)⟩⟩)⟩)))
    refine vm_X1_add _ _ _ _ ?_
    rw [← hz, w32_id (x := z + 1) (by omega) (by omega), w32_id (x := z + 1 - 1) (by omega) (by omega), show z + 1 - 1 = z by omega, ← hρ]
    exact ⟨fun h => ⟨⟨d1.1, h⟩, ⟨d1.1, h⟩, ⟨d1.1, h⟩, upY ⟨g1, g2, g3, g4, by omega, h⟩⟩, fun h => upN (fun q => h q.2.2.2.2.2)⟩
  · have e4 : ρ 82 9 = z := by rw [fρ.fld 82 9 (by decide), e9]
    have e3 : ρ 82 3 = σ 1 11 := by rw [fρ.fld 82 3 (by decide)]; exact hB.2.2.2.2.1
    have per : ∀ x : Int, am_M Ln 999 136 [vR 82, vI x] ρ (am_rI fun r s => r = (if 0 ≤ x ∧ x < σ 1 11 then 1 else 0) ∧ s = ρ) := by
      intro x
      refine sp_mlb (d := 997) (a := x) (lo := 0) (hi := σ 1 11 - 1) (by omega) (fun Q h => vm_X12_isPerson _ _ ?_)
      rw [e3, w32_id (by omega) (by omega)]
      exact h
    refine vm_X12_debt _ _ _ _ _ ?_
    rw [e4]
    refine ⟨fun h => absurd h (by omega), fun _ => cG (per a) (fun h => absurd hc.1 h) (fun _ => cG (per b) (fun h => absurd hc.2.1 h) (fun _ => ⟨fun h => absurd h hc.2.2.1, fun _ => cG sp_mlies (fun h => absurd hc.2.2.2.1 h) (fun _ => cG sp_mlies (fun h => absurd ⟨hc.2.2.2.2.1.1, by omega⟩ h) (fun _ => ?_))⟩))⟩
    rw [e4, w32_id (x := z + 1) (by omega) (by omega), w32_id (x := z + 1 - 1) (by omega) (by omega), show z + 1 - 1 = z by omega, ← hτ]
    have rz : 0 ≤ z ∧ z < 40 := ⟨d1.1, hc.2.2.2.2.2⟩
    exact ⟨rz, rz, rz, rz, rfl, rfl⟩
  · refine vm_X12_debt _ _ _ _ _ ?_
    rw [e9]
    exact ⟨fun h => ⟨rfl, rfl⟩, fun g5 => cG (sp_mPerson hB fw hnn) (fun h => ⟨rfl, rfl⟩) (fun g1 => cG (sp_mPerson hB fw hnn) (fun h => ⟨rfl, rfl⟩) (fun g2 => ⟨fun h => ⟨rfl, rfl⟩, fun g3 => cG sp_mlies (fun h => ⟨rfl, rfl⟩) (fun g4 => cG sp_mlies (fun h => ⟨rfl, rfl⟩) (fun g6 => absurd ⟨g1, g2, g3, g4, by omega, by omega⟩ hc))⟩))⟩
  · refine ⟨OKB_up h1 (BK_up [] [((82, 9), (76, 3))] h1.1 fτ (by decide) (by decide) no_mem (one_mem (by show τ 82 9 = τ 76 3; rw [t763, t829]))) (by rw [fτ.fld 1 11 (by decide)]; exact h1.2.1) (Nat.le_refl n) h1.2.2.1 (by rw [fτ.fld 19 4 (by decide)]; exact h1.2.2.2.1) (fτ.fld 7 11 (by decide)) (fτ.cs _ (by decide)) (by rw [fτ.cell 5 (by decide)]; exact OKB_5 h1), OKD_cg (fτ.cell 13 (by decide)) (fτ.fld 7 11 (by decide)) h2, RB_cg (fτ.cs RBC (by decide)) (fτ.fld 24 14 (by decide)) h3, NU_cg (fτ.cell 5 (by decide)) (fτ.cell 121 (by decide)) (fτ.fls _ (by decide)) h4, TP_cg (fτ.cell 3 (by decide)) (fτ.cell 83 (by decide)) (fτ.fld 2 1 (by decide)) h5, CH_cg (fτ.cell 71 (by decide)) (fτ.cell 129 (by decide)) (fτ.fld 4 2 (by decide)) (fτ.fld 70 4 (by decide)) h6, BA_cg (fτ.cs BAC (by decide)) (fτ.fld 70 6 (by decide)) h7, ⟨by rw [t763]; omega, ⟨t134, t136, t137⟩, fun i u v => ?_⟩, TH_cg (fτ.fld 7 11 (by decide)) (Int.le_of_eq (fτ.fld 1 12 (by decide)).symm) (fτ.cell 8 (by decide)) (fτ.cell 10 (by decide)) (fτ.cell 14 (by decide)) (fτ.cell 15 (by decide)) h8.2⟩
    rw [t763] at v
    rw [c1 77 (by decide), c1 78 (by decide), c1 79 (by decide), q77, q78, q79]
    by_cases e : i = z
    · rw [if_pos e, if_pos e, if_pos e, ← hn]; exact ⟨hc.1, hc.2.2.2.1, hc.2.2.2.2.1⟩
    · rw [if_neg e, if_neg e, if_neg e]; exact d5 i u (by omega)
theorem pr_look (hI : INV σ n G) (i w : Int) : PR Ln 120 [vR 1, vI i, vI w] 243 [vR 82, vI i, vI w] σ := by
  have hB := hI.1.1
  obtain ⟨⟨b84, b85, b86, b87, b88, b89, b90, b91, b92, b93, b94, b95⟩, -, -⟩ := id hB
  have hL := hI.1.2.2.2.2.1
  refine pr_ans (c := 0 ≤ i ∧ i < σ 7 11) (v := if w = 0 then σ 8 i else if w = 1 then σ 9 i else if w = 2 then σ 10 i else if w = 3 then σ 11 i else if w = 4 then σ 13 i else if w = 5 then σ 14 i else if w = 6 then σ 15 i else if w = 7 then σ 16 i else if w = 8 then σ 17 i else if w = 9 then (if σ 12 i = 0 then 0 else 1) else -1) (w := -1) (cs := []) (fs := []) (cs' := []) (fs' := []) hI ?_ (fun s hs => ?_) (by decide) (by decide)
  · refine vm_X11_look _ _ _ (cG sp_cLine (fun h => ansN h) (fun g1 => ?_))
    have ri : 0 ≤ i ∧ i < 100 := by omega
    refine ⟨fun e => ⟨ri, ansY g1 ?_ Fr.rf⟩, fun e => ⟨ri, ansY g1 ?_ Fr.rf⟩, fun e => ⟨ri, ansY g1 ?_ Fr.rf⟩, fun e => ⟨ri, ansY g1 ?_ Fr.rf⟩, fun e => ⟨ri, ansY g1 ?_ Fr.rf⟩, fun e => ⟨ri, ansY g1 ?_ Fr.rf⟩, fun e => ⟨ri, ansY g1 ?_ Fr.rf⟩, fun e => ⟨ri, ansY g1 ?_ Fr.rf⟩, fun e => ⟨ri, ansY g1 ?_ Fr.rf⟩, fun e => ⟨ri, fun z => ansY g1 ?_ Fr.rf, fun z => ansY g1 ?_ Fr.rf⟩, fun e => ansY g1 ?_ Fr.rf, trivial⟩
    · rw [e]; simp
    · rw [e]; simp
    · rw [e]; simp
    · rw [e]; simp
    · rw [e]; simp
    · rw [e]; simp
    · rw [e]; simp
    · rw [e]; simp
    · rw [e]; simp
    · rw [e]; simp [z]
    · rw [e]; simp [z]
    · rw [if_neg (by omega), if_neg (by omega), if_neg (by omega), if_neg (by omega), if_neg (by omega), if_neg (by omega), if_neg (by omega), if_neg (by omega), if_neg (by omega), if_neg (by omega)]
  · obtain rfl : s = σ := by
      funext c j
      exact hs c j (by simp) (by simp)
    refine vm_X12_look _ _ _ (cG (sp_mLine hB Fr.rf hL) (fun h => ansN h) (fun g1 => ?_))
    have ri : 0 ≤ i ∧ i < 100 := by omega
    rw [b86, b87, b88, b89, b90, b91, b92, b93, b94, b95]
    refine ⟨fun e => ⟨ri, ansY g1 ?_ Fr.rf⟩, fun e => ⟨ri, ansY g1 ?_ Fr.rf⟩, fun e => ⟨ri, ansY g1 ?_ Fr.rf⟩, fun e => ⟨ri, ansY g1 ?_ Fr.rf⟩, fun e => ⟨ri, ansY g1 ?_ Fr.rf⟩, fun e => ⟨ri, ansY g1 ?_ Fr.rf⟩, fun e => ⟨ri, ansY g1 ?_ Fr.rf⟩, fun e => ⟨ri, ansY g1 ?_ Fr.rf⟩, fun e => ⟨ri, ansY g1 ?_ Fr.rf⟩, fun e => ⟨ri, fun z => ansY g1 ?_ Fr.rf, fun z => ansY g1 ?_ Fr.rf⟩, fun e => ansY g1 ?_ Fr.rf, trivial⟩
    · rw [e]; simp
    · rw [e]; simp
    · rw [e]; simp
    · rw [e]; simp
    · rw [e]; simp
    · rw [e]; simp
    · rw [e]; simp
    · rw [e]; simp
    · rw [e]; simp
    · rw [e]; simp [z]
    · rw [e]; simp [z]
    · rw [if_neg (by omega), if_neg (by omega), if_neg (by omega), if_neg (by omega), if_neg (by omega), if_neg (by omega), if_neg (by omega), if_neg (by omega), if_neg (by omega), if_neg (by omega)]
end UP
