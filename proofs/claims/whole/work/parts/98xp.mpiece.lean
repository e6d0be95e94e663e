/-! the model reads pieces and conditions -/
section MC
variable {Ln : Int} {d : Nat} {ch : Int → Int} {n r c0 q op bh : Int} {S : List Int} {m : List (Int × Int)} {σ0 σ : AS} {Qc : Option AV → AS → Prop}
def BHC (Ln : Int) (d : Nat) (Qc : Option AV → AS → Prop) (s : AS) : Prop := ∃ T : Option AV → AS → Prop, am_M Ln (d + 7) 172 [vR 82] s T ∧ ∀ (r : Int) s', T (some (vI r)) s' → am_E Ln (d + 7) 173 47 [vR 82, vI r] [] s' Qc
def RST (Ln : Int) (d : Nat) (Qc : Option AV → AS → Prop) (s : AS) : Prop := (s 82 37 = 0 → BHC Ln d Qc s) ∧ (s 82 37 ≠ 0 → Qc none s)
def PH (Ln : Int) (d : Nat) (Qc : Option AV → AS → Prop) (σ : AS) : Prop := am_E Ln (d + 6) 171 0 [vR 82, vU] [] σ (am_rV (RST Ln d Qc))
theorem cl_bad {x : Int} (h : σ 82 37 ≠ 0) (hQ : Qc none σ) : am_E Ln (d + 7) 173 47 [vR 82, vI x] [] σ Qc := by
  refine vl_X12_condition_47 _ _ (cI (sp_goodB (d := d + 6) h) ?_)
  rintro r2 s1 ⟨rfl, rfl⟩
  exact ⟨fun _ => hQ, fun z => absurd rfl z⟩
theorem cl_done {x : Int} (h : σ 82 37 = 0) (hd : σ 82 42 ≠ 0) (hQ : Qc none σ) : am_E Ln (d + 7) 173 47 [vR 82, vI x] [] σ Qc := by
  refine vl_X12_condition_47 _ _ (cI (sp_goodG (d := d + 6) h) ?_)
  rintro r2 s1 ⟨rfl, rfl⟩
  exact ⟨fun z => absurd z (by decide), fun _ => ⟨fun z => absurd z hd, fun _ => hQ⟩⟩
theorem cl_B (h : σ 82 37 = 0) (hd : σ 82 42 = 0) (hB : BHC Ln d Qc σ) : am_E Ln (d + 7) 173 47 [vR 82, vI 0] [] σ Qc := by
  refine vl_X12_condition_47 _ _ (cI (sp_goodG (d := d + 6) h) ?_)
  rintro r2 s1 ⟨rfl, rfl⟩
  refine ⟨fun z => absurd z (by decide), fun _ => ⟨fun _ => ⟨fun _ => cI (sp_goodG (d := d + 6) h) ?_, fun z => absurd rfl z⟩, fun z => absurd hd z⟩⟩
  rintro r4 s3 ⟨rfl, rfl⟩
  exact ⟨fun z => absurd z (by decide), fun _ => hB⟩
theorem cl_P (h : σ 82 37 = 0) (hd : σ 82 42 = 0) (hP : PH Ln d Qc σ) : am_E Ln (d + 7) 173 47 [vR 82, vI 1] [] σ Qc := by
  refine vl_X12_condition_47 _ _ (cI (sp_goodG (d := d + 6) h) ?_)
  rintro r2 s1 ⟨rfl, rfl⟩
  refine ⟨fun z => absurd z (by decide), fun _ => ⟨fun _ => ⟨fun z => absurd z (by decide), fun _ => ⟨_, vm_X12_piece _ hP, fun s7 h7 => ?_⟩⟩, fun z => absurd hd z⟩⟩
  have h7' : RST Ln d Qc s7 := h7
  by_cases z : s7 82 37 = 0
  · refine cI (sp_goodG (d := d + 6) z) ?_
    rintro r9 s8 ⟨rfl, rfl⟩
    exact ⟨fun z => absurd z (by decide), fun _ => h7'.1 z⟩
  · refine cI (sp_goodB (d := d + 6) z) ?_
    rintro r9 s8 ⟨rfl, rfl⟩
    exact ⟨fun _ => cl_bad z (h7'.2 z), fun z => absurd rfl z⟩
theorem kb_of {e : Int × Int} (h : KB r c0 σ0 Qc e) : KB r c0 σ0 (am_rV (RST Ln d Qc)) e :=
  ⟨h.1, fun s hs => ⟨fun z => absurd z (by have := BAD_neg hs h.1; omega), fun _ => h.2 s hs⟩⟩
def anI (c : Int) : Prop := c = 38 ∨ c = 124
theorem gb_A (hG : CG ch n (160 * r)) (hT : MTp ch n r σ0) (hr : 0 ≤ r ∧ r < 20) (hc : 0 ≤ c0) {pe : List Int} (h : MPr r c0 q op bh (pe ++ S) m σ0 σ) (hq : 0 ≤ q ∧ q ≤ n) (hpe : ∀ c ∈ pe, c = 38) (hS : S.headD 0 ≠ 38) (hcq : ch q = 38) (hK : ∀ s, MPr r c0 (q + 1) op bh (38 :: S) (m ++ jc pe) σ0 s → PH Ln d Qc s) : BHC Ln d Qc σ := by
  have hn := hG.2.2.1
  have hlt := ch_lt hG.1 hcq (by decide)
  refine cI (P := fun v s => v = 1 ∧ MPr r c0 (q + 1) op bh (38 :: S) (m ++ jc pe) σ0 s) (vm_X12_goesBehind _ (cI (sp_here (d := d + 5) hG (MTp_fr hT h.1) h.2.2.1.1 hq.1) ?_)) ?_
  · rintro r2 s1 ⟨h2, rfl⟩
    rw [hcq] at h2
    subst h2
    refine ⟨fun _ => ⟨fun z => absurd z (by decide), fun _ => cV (sp_joins (d := d + 2) hT hr hc (by omega) hS (fun z => absurd rfl z) h (fun c hc => Or.inl (hpe c hc))) ?_⟩, fun z => absurd rfl z⟩
    intro s5 h5
    exact cV (sp_puts (d := d + 5) (c := 38) h5 (by omega) hc) (fun s6 h6 => ⟨am_b1, rfl, h6⟩)
  · rintro v s' ⟨rfl, h'⟩
    exact cl_P h'.2.2.1.2.1 h'.2.2.1.2.2.2.2.2.1 (hK _ h')
theorem gb_O (hG : CG ch n (160 * r)) (hT : MTp ch n r σ0) (hr : 0 ≤ r ∧ r < 20) (hc : 0 ≤ c0) {pe : List Int} (h : MPr r c0 q op bh (pe ++ S) m σ0 σ) (hq : 0 ≤ q ∧ q ≤ n) (hpe : ∀ c ∈ pe, anI c) (hS1 : S.headD 0 ≠ 38) (hS2 : S.headD 0 ≠ 124) (hcq : ch q = 124) (hK : ∀ s, MPr r c0 (q + 1) op bh (124 :: S) (m ++ jc pe) σ0 s → PH Ln d Qc s) : BHC Ln d Qc σ := by
  have hn := hG.2.2.1
  have hlt := ch_lt hG.1 hcq (by decide)
  refine cI (P := fun v s => v = 1 ∧ MPr r c0 (q + 1) op bh (124 :: S) (m ++ jc pe) σ0 s) (vm_X12_goesBehind _ (cI (sp_here (d := d + 5) hG (MTp_fr hT h.1) h.2.2.1.1 hq.1) ?_)) ?_
  · rintro r2 s1 ⟨h2, rfl⟩
    rw [hcq] at h2
    subst h2
    refine ⟨fun z => absurd z (by decide), fun _ => ⟨fun _ => ⟨fun _ => cV (sp_joins (d := d + 2) hT hr hc (by omega) hS1 (fun _ => hS2) h (fun c hc => (hpe c hc).elim Or.inl (fun y => Or.inr ⟨by decide, y⟩))) ?_, fun z => absurd rfl z⟩, fun z => absurd rfl z⟩⟩
    intro s5 h5
    exact cV (sp_puts (d := d + 5) (c := 124) h5 (by omega) hc) (fun s6 h6 => ⟨am_b1, rfl, h6⟩)
  · rintro v s' ⟨rfl, h'⟩
    exact cl_P h'.2.2.1.2.1 h'.2.2.1.2.2.2.2.2.1 (hK _ h')
theorem gb_N (hG : CG ch n (160 * r)) (hT : MTp ch n r σ0) (h : MPr r c0 q op bh S m σ0 σ) (hq : 0 ≤ q ∧ q ≤ n) (h1 : ch q ≠ 38) (h2 : ch q ≠ 124) (h3 : ch q ≠ 41) (hK : KB r c0 σ0 Qc (1, q)) : BHC Ln d Qc σ := by
  have hn := hG.2.2.1
  refine cI (P := fun v s => v = 0 ∧ BAD r c0 (1, q) σ0 s) (vm_X12_goesBehind _ (cI (sp_here (d := d + 5) hG (MTp_fr hT h.1) h.2.2.1.1 hq.1) ?_)) ?_
  · rintro r2 s1 ⟨rfl, rfl⟩
    refine ⟨fun z => absurd z h1, fun _ => ⟨fun z => absurd z h2, fun _ => ⟨fun z => absurd z h3, fun _ => ?_⟩⟩⟩
    rw [h.2.2.1.1]
    refine cV (sp_wrongs (d := d + 5) h.2.2.1.2.1 (by decide) (by omega)) ?_
    rintro s14 rfl
    exact ⟨am_b0, rfl, MPr_bad h⟩
  · rintro v s' ⟨rfl, h'⟩
    have := BAD_neg h' hK.1
    exact cl_bad (by omega) (hK.2 _ h')
/-- the condition's closing bracket is passed -/
def MDN (r c0 q : Int) (m : List (Int × Int)) (σ0 σ : AS) : Prop := Fr mpX mpF σ0 σ ∧ (∀ j : Int, j < 160 * r + c0 → σ 106 j = σ0 106 j ∧ σ 107 j = σ0 107 j) ∧ (σ 82 35 = q ∧ σ 82 37 = 0 ∧ σ 82 39 = c0 + m.length) ∧ cds σ (160 * r + c0) m ∧ c0 + m.length ≤ q
theorem gb_C (hG : CG ch n (160 * r)) (hT : MTp ch n r σ0) (hr : 0 ≤ r ∧ r < 20) (hc : 0 ≤ c0) {pe Sx : List Int} (h : MPr r c0 q op bh (pe ++ 40 :: Sx) m σ0 σ) (hq : 0 ≤ q ∧ q ≤ n) (hpe : ∀ c ∈ pe, anI c) (hcq : ch q = 41) (hop : 0 ≤ op ∧ op ≤ 100) (hK1 : Sx = [] → ∀ s, MDN r c0 (q + 1) (m ++ jc pe) σ0 s → Qc none s) (hK2 : Sx ≠ [] → ∃ (b : Nat) (S0 : List Int), Sx = List.replicate b 33 ++ S0 ∧ S0.headD 0 ≠ 33 ∧ (b : Int) ≤ op - 1 ∧ ∀ s, MPr r c0 (q + 1) (op - 1 - b) bh S0 (m ++ jc pe ++ List.replicate b (2, 0)) σ0 s → BHC Ln d Qc s) : BHC Ln d Qc σ := by
  have hn := hG.2.2.1
  have hlt := ch_lt hG.1 hcq (by decide)
  refine cI (P := fun v s => v = 0 ∧ am_E Ln (d + 7) 173 47 [vR 82, vI 0] [] s Qc) (vm_X12_goesBehind _ (cI (sp_here (d := d + 5) hG (MTp_fr hT h.1) h.2.2.1.1 hq.1) ?_)) ?_
  · rintro r2 s1 ⟨h2, rfl⟩
    rw [hcq] at h2
    subst h2
    refine ⟨fun z => absurd z (by decide), fun _ => ⟨fun z => absurd z (by decide), fun _ => ⟨fun _ => cV (sp_joins (d := d + 2) hT hr hc (by omega) (by show (40 : Int) ≠ 38; decide) (fun _ => by show (40 : Int) ≠ 124; decide) h (fun c hc => (hpe c hc).elim Or.inl (fun y => Or.inr ⟨by decide, y⟩))) ?_, fun z => absurd rfl z⟩⟩⟩
    intro s11 h11
    have e41 : s11 82 41 = ((Sx.length + 1 : Nat) : Int) := h11.2.2.1.2.2.2.2.1
    have h6 := h11.2.2.2.2.2
    rw [List.length_cons] at h6
    have ew : w32 (s11 82 41 - 1) = Sx.length := by rw [e41, w32_id (by omega) (by omega)]; omega
    -- what is left is as after a pop
    have hp := MPr_pop (bh' := bh) h11 (by omega) hc hop
    obtain ⟨τ, hτ⟩ : ∃ τ, τ = am_up (am_up (am_up s11 82 41 (w32 (s11 82 41 - 1))) 82 40 (w32 (s11 82 40 - 1))) 82 35 (w32 (s11 82 35 + 1)) := ⟨_, rfl⟩
    rw [← hτ] at hp ⊢
    have hτ1 : Fr [] [(82, 41), (82, 40), (82, 35)] s11 τ := by
      rw [hτ]
      exact Fr.up (Fr.up (Fr.up Fr.rf (Or.inr (by decide))) (Or.inr (by decide))) (Or.inr (by decide))
    have t42 : τ 82 42 = 0 := by rw [hτ1.fld 82 42 (by decide)]; exact h11.2.2.1.2.2.2.2.2.1
    have t43 : τ 82 43 = bh := by rw [hτ1.fld 82 43 (by decide)]; exact h11.2.2.1.2.2.2.2.2.2
    have u42 : am_up τ 82 42 0 = τ := by
      have := up_self (σ := τ) (k := 82) (i := 42)
      rw [t42] at this
      exact this
    have u43 : am_up τ 82 43 bh = τ := by
      have := up_self (σ := τ) (k := 82) (i := 43)
      rw [t43] at this
      exact this
    rw [u43] at hp
    refine ⟨fun z => ⟨am_b1, fun y => absurd y (by decide), fun _ => ⟨am_b0, rfl, ?_⟩⟩, fun z => ⟨am_b0, fun _ => ?_, fun y => absurd rfl y⟩⟩
    · have hx : Sx = [] := by
        rw [ew] at z
        exact List.length_eq_zero_iff.mp (by omega)
      obtain ⟨g1, g2, ⟨p1, p2, p3, p4, p5, p6, p7⟩, g4, g5, g6⟩ := hp
      have f2 : Fr [] [(82, 42)] τ (am_up τ 82 42 1) := Fr.up Fr.rf (Or.inr (by decide))
      refine cl_done (d := d) (x := 0) ?_ (by rw [am_up_eq, if_pos rfl]; decide) (hK1 hx _ ⟨g1.up (Or.inr (by decide)), fun j hj => ?_, ⟨?_, ?_, ?_⟩, ?_, by have e : (m ++ jc pe).length = (m ++ List.map (fun c => (c, (0 : Int))) pe).length := rfl; omega⟩)
      · rw [f2.fld 82 37 (by decide)]; exact p2
      · rw [f2.cell 106 (by decide), f2.cell 107 (by decide)]; exact g2 j hj
      · rw [f2.fld 82 35 (by decide)]; exact p1
      · rw [f2.fld 82 37 (by decide)]; exact p2
      · rw [f2.fld 82 39 (by decide)]; exact p3
      · unfold cds at g4 ⊢
        rw [f2.cell 106 (by decide), f2.cell 107 (by decide)]
        exact g4
    · rw [u42]
      have hx : Sx ≠ [] := fun w => z (by rw [ew, w]; rfl)
      obtain ⟨b, S0, rfl, k1, k2, k3⟩ := hK2 hx
      refine cV (sp_ends (d := d + 2) hT hr hc (by omega) k1 hp ⟨k2, by omega⟩) ?_
      intro s13 h13
      exact ⟨am_b0, rfl, cl_B h13.2.2.1.2.1 h13.2.2.1.2.2.2.2.2.1 (k3 _ h13)⟩
  · rintro v s' ⟨rfl, h'⟩
    exact h'
end MC
