/-! the model reads a factor -/
section MF
variable {Ln : Int} {d : Nat} {ch : Int → Int} {n r c0 q op bh : Int} {S : List Int} {m : List (Int × Int)} {σ0 σ : AS} {Q : Option AV → AS → Prop}
theorem MPr_pop {c bh' : Int} (h : MPr r c0 q op bh (c :: S) m σ0 σ) (hq : 0 ≤ q ∧ q ≤ 160) (hc : 0 ≤ c0) (hop : 0 ≤ op ∧ op ≤ 100) : MPr r c0 (q + 1) (op - 1) bh' S m σ0 (am_up (am_up (am_up (am_up σ 82 41 (w32 (σ 82 41 - 1))) 82 40 (w32 (σ 82 40 - 1))) 82 35 (w32 (σ 82 35 + 1))) 82 43 bh') := by
  have hst := (stk_top h).2
  obtain ⟨h1, h2, ⟨p1, p2, p3, p4, p5, p6, p7⟩, h4, h5, h6⟩ := h
  rw [List.length_cons] at h6 p5
  rw [p1, p4, p5, w32_id (x := q + 1) (by omega) (by omega), w32_id (x := op - 1) (by omega) (by omega), w32_id (x := ((S.length + 1 : Nat) : Int) - 1) (by omega) (by omega)]
  obtain ⟨τ, hτ⟩ : ∃ τ, τ = am_up (am_up (am_up (am_up σ 82 41 (((S.length + 1 : Nat) : Int) - 1)) 82 40 (op - 1)) 82 35 (q + 1)) 82 43 bh' := ⟨_, rfl⟩
  rw [← hτ]
  have hf : Fr [] [(82, 41), (82, 40), (82, 35), (82, 43)] σ τ := by
    rw [hτ]
    exact Fr.up (Fr.up (Fr.up (Fr.up Fr.rf (Or.inr (by decide))) (Or.inr (by decide))) (Or.inr (by decide))) (Or.inr (by decide))
  refine ⟨h1.tr (hf.mo (by decide) (by decide)), fun j hj => by rw [hf.cell 106 (by decide), hf.cell 107 (by decide)]; exact h2 j hj, ⟨?_, ?_, ?_, ?_, ?_, ?_, ?_⟩, ?_, ?_, by omega⟩
  · rw [hτ, am_up_eq, if_neg (by decide), am_up_eq, if_pos rfl]
  · rw [hf.fld 82 37 (by decide)]; exact p2
  · rw [hf.fld 82 39 (by decide)]; exact p3
  · rw [hτ, am_up_eq, if_neg (by decide), am_up_eq, if_neg (by decide), am_up_eq, if_pos rfl]
  · rw [hτ, am_up_eq, if_neg (by decide), am_up_eq, if_neg (by decide), am_up_eq, if_neg (by decide), am_up_eq, if_pos rfl]; omega
  · rw [hf.fld 82 42 (by decide)]; exact p6
  · rw [hτ, am_up_eq, if_pos rfl]
  · unfold cds at h4 ⊢
    rw [hf.cell 106 (by decide), hf.cell 107 (by decide)]
    exact h4
  · rw [hf.cell 108 (by decide)]; exact hst
theorem sp_putsB {c : Int} {e : Int × Int} (h : BAD r c0 e σ0 σ) (h41 : 0 ≤ σ 82 41 ∧ σ 82 41 < 200) : am_M Ln (d + 1) 157 [vR 82, vI c] σ (am_rV (BAD r c0 e σ0)) :=
  vm_X12_puts _ _ ⟨h41, BAD_up (BAD_up (BAD_st h) (by decide) (by decide)) (by decide) (by decide)⟩
theorem sp_emitB {a b : Int} (h : σ 82 37 ≠ 0) : am_M Ln (d + 2) 155 [vR 82, vI a, vI b] σ (am_rV fun s => s = σ) := by
  refine vm_X12_emit _ _ _ (cI (sp_goodB (d := d) h) ?_)
  rintro r2 s1 ⟨rfl, rfl⟩
  exact ⟨fun _ => rfl, fun z => absurd rfl z⟩
/-- emitted, with nothing taken off -/
theorem sp_emitP {a b : Int} (hT : MTp ch n r σ0) (h : MPr r c0 q op bh S m σ0 σ) (hr : 0 ≤ r ∧ r < 20) (hc : 0 ≤ c0) (hq : q ≤ 160) {q' : Int} (hqq : c0 + m.length + 1 + S.length ≤ q') (hroom : c0 + m.length < 160) (f : AS → AS) (hf : ∀ s : AS, s 82 35 = q → Fr [] [(82, 35), (82, 40), (82, 41)] s (f s) ∧ (f s) 82 35 = q' ∧ (f s) 82 40 = s 82 40 ∧ (f s) 82 41 = s 82 41) : am_M Ln (d + 2) 155 [vR 82, vI a, vI b] σ (am_rV fun s => MPr r c0 q' op bh S (m ++ [(a, b)]) σ0 (f s)) := by
  refine am_MV (sp_emitM (MTp_fr hT h.1) h hr hc hroom) ?_
  rintro s5 ⟨h5, hcd⟩
  have g1 : Fr [106, 107] [(82, 39)] σ s5 := by
    rw [h5]
    exact Fr.up (Fr.up (Fr.up Fr.rf (Or.inl (by decide))) (Or.inl (by decide))) (Or.inr (by decide))
  obtain ⟨f1, f2, f3, f4⟩ := hf s5 (by rw [g1.fld 82 35 (by decide)]; exact h.2.2.1.1)
  exact MPr_emit h h5 hcd f1 f2 (by rw [f3, g1.fld 82 40 (by decide)]; exact h.2.2.1.2.2.2.1) (by rw [f4, g1.fld 82 41 (by decide)]; exact h.2.2.1.2.2.2.2.1) h.2.2.2.2.1 hqq
theorem pIn_ok {cl : Int} {P : Int → Rs} {y : Int × GF} (h3 : P (q + 1) = .inr y) (z : ch y.1 = cl) : pIn ch cl P q = .inr (y.1 + 1, y.2) := by
  unfold pIn
  rw [h3]
  dsimp only
  rw [if_pos z]
theorem pIn_no {cl : Int} {P : Int → Rs} {y : Int × GF} (h3 : P (q + 1) = .inr y) (z : ch y.1 ≠ cl) : pIn ch cl P q = .inl (1, y.1) := by
  unfold pIn
  rw [h3]
  dsimp only
  rw [if_neg z]
theorem facm (hG : CG ch n (160 * r)) (hT : MTp ch n r σ0) (hr : 0 ≤ r ∧ r < 20) (hc : 0 ≤ c0) {k : Nat} (hk : k ≤ 5) (hS : ∀ k' : Nat, k = k' + 1 → SUMM Ln d ch n r c0 σ0 Q k') : FACM Ln d ch n r c0 σ0 Q k := by
  intro S m q bh σ h hq hqn he hK
  have hn := hG.2.2.1
  have hT' := MTp_fr hT h.1
  have h6 := h.2.2.2.2.2
  have hmo : k = 0 ∨ ∃ k', k = k' + 1 := by cases k; exact Or.inl rfl; exact Or.inr ⟨_, rfl⟩
  refine vl_X12_factor_0 _ (cI (sp_goodG (d := d + 4) h.2.2.1.2.1) ?_)
  rintro r2 s1 ⟨rfl, rfl⟩
  refine ⟨fun z => absurd z (by decide), fun _ => cI (sp_here (d := d + 4) hG hT' h.2.2.1.1 hq) ?_⟩
  rintro r19 s18 ⟨rfl, rfl⟩
  refine ⟨fun z => ?_, fun z => ?_⟩
  · -- a bracket
    have hlt := ch_lt hG.1 z (by decide)
    rcases hmo with rfl | ⟨k', rfl⟩
    · have hf : pFac ch n 0 q = .inl (5, q) := by rw [pFac, if_pos z]
      refine cV (sp_opensB (d := d + 3) hG hT' (q := q) (by rw [show (6 : Int) - ((0 : Nat) : Int) = 6 by decide] at h; exact h) ⟨hq, hlt⟩ hc) ?_
      intro s20 h20
      have hKB := he _ hf
      have hb := BAD_neg h20 hKB.1
      refine vl_X12_factor_0 _ (cI (sp_goodB (d := d + 4) (by omega)) ?_)
      rintro r2 s2 ⟨rfl, rfl⟩
      refine ⟨fun _ => cI (sp_goodB (d := d + 4) (by omega)) ?_, fun z => absurd rfl z⟩
      rintro r4 s3 ⟨rfl, rfl⟩
      exact ⟨fun _ => aft_bad (d := d + 5) hKB h20, fun z => absurd rfl z⟩
    · have hf : pFac ch n (k' + 1) q = pIn ch 93 (pSum ch n (pFac ch n k')) q := by rw [pFac, if_pos z]
      refine cV (sp_opens (d := d + 3) hG hT' h ⟨hq, hlt⟩ hc (by omega)) ?_
      intro s20 h20
      rw [show (6 - ((k' + 1 : Nat) : Int) + 1) = 6 - (k' : Int) by omega] at h20
      refine hS k' rfl (ch q :: S) m (q + 1) bh s20 h20 (by rw [List.headD_cons, z]; rfl) (by rw [List.headD_cons, z]; rfl) (by omega) (by omega) (fun e1 h1 => he e1 (by rw [hf]; unfold pIn; rw [h1])) (fun y pe m1 s bh3 h3 hsm hpe hs => ?_)
      have hg := gd_sum hG.1 (gd_fac hG.1 (n := n) k') (q + 1) (by omega) (by omega)
      rw [h3] at hg
      have hy := hg.1
      have hnx := nx_sum hG.1 (gd_fac hG.1 (n := n) k') (by omega) (by omega) h3
      refine aft_G (d := d + 5) hs (fun s4 hs4 => ?_)
      refine cI (go_N (d := d) hG hT hr hc (R := fun v s12 => (v = 0 → am_E Ln (d + 6) 171 39 [vR 82, vI 0] [] s12 Q) ∧ (¬ (v = 0) → am_E Ln (d + 6) 171 39 [vR 82, vI 1] [] s12 Q)) hs4 ⟨by omega, hy.2⟩ hpe (by rw [List.headD_cons, z]; rfl) (by rw [List.headD_cons, z]; rfl) hnx.1 hnx.2 (fun s7 h7 => ?_)) (fun v s12 hv => hv)
      have h741 : s7 82 41 = ((ch q :: S).length : Int) := h7.2.2.1.2.2.2.2.1
      have h76 := h7.2.2.2.2.2
      have h735 : s7 82 35 = y.1 := h7.2.2.1.1
      refine ⟨fun z2 => cI (sp_top (d := d + 4) h7 (by omega) hc) ?_, fun z2 => ?_⟩
      · rintro r9 s8 ⟨h9, rfl⟩
        have e9 : r9 = 91 := h9.trans z
        refine ⟨fun _ => ⟨am_b1, am_b1, fun v => absurd v (by decide), fun _ => ?_⟩, fun v => absurd e9 v⟩
        have h8 := MPr_pop (bh' := 1) h7 (by omega) hc (by omega)
        rw [show (6 - (k' : Int) - 1) = 6 - ((k' + 1 : Nat) : Int) by omega] at h8
        refine lh_B (d := d + 5) h8.2.2.1.2.1 h8.2.2.1.2.2.2.2.2.2 (hK (y.1 + 1, y.2) (m1 ++ jc pe) _ 1 (hf.trans (pIn_ok h3 z2)) (SM_mono hsm (by omega)) ?_)
        rw [← List.append_assoc]
        exact h8
      · have hKB := he (1, y.1) (hf.trans (pIn_no h3 z2))
        have bad : ∀ s, s = am_up s7 82 37 (-1000 * 1 - y.1) → BAD r c0 (1, y.1) σ0 s ∧ s 82 41 = ((ch q :: S).length : Int) := fun s e => by
          rw [e]
          exact ⟨MPr_bad h7, by rw [am_up_eq, if_neg (by decide)]; exact h741⟩
        refine cI (sp_isG (d := d + 4)) ?_
        rintro r12 s11 ⟨h12, rfl⟩
        refine ⟨fun v => cI (sp_top (d := d + 4) h7 (by omega) hc) ?_, fun v => cI (sp_top (d := d + 4) h7 (by omega) hc) ?_⟩
        · rintro r14 s13 ⟨h14, rfl⟩
          refine cI (sp_isG (d := d + 4)) ?_
          rintro r16 s15 ⟨h16, rfl⟩
          have : r16 = 0 := by
            by_cases w : r16 = 0
            · exact w
            · have := h16.mp w
              rw [show r14 = 91 from h14.trans z] at this
              exact absurd this (by decide)
          refine ⟨fun _ => ?_, fun w => absurd this w⟩
          rw [h735]
          refine cV (sp_wrongs (d := d + 4) h7.2.2.1.2.1 (by decide) (by omega)) ?_
          intro s17 h17
          have hb := (bad s17 h17).1
          have hneg := BAD_neg hb hKB.1
          exact ⟨am_b0, fun _ => lh_bad (d := d + 5) (by omega) (hKB.2 _ hb), fun w => absurd rfl w⟩
        · rintro r22 s21 ⟨h22, rfl⟩
          refine ⟨fun _ => ?_, fun w => absurd (h22.trans z) w⟩
          rw [h735]
          refine cV (sp_wrongs (d := d + 4) h7.2.2.1.2.1 (by decide) (by omega)) ?_
          intro s23 h23
          have hb := bad s23 h23
          rw [List.length_cons] at hb h76
          refine cV (sp_putsB (d := d + 4) hb.1 (by omega)) ?_
          intro s24 h24
          have hneg := BAD_neg h24 hKB.1
          exact ⟨am_b1, fun w => absurd w (by decide), fun _ => lh_bad (d := d + 5) (by omega) (hKB.2 _ h24)⟩
  · have hf : pFac ch n k q = pBase ch q := pFac_ne z
    refine cI (sp_goodG (d := d + 4) h.2.2.1.2.1) ?_
    rintro r22 s21 ⟨rfl, rfl⟩
    refine ⟨fun z => absurd z (by decide), fun _ => cI (sp_seesDigit (d := d + 3) hG hT' h.2.2.1.1 hq) ?_⟩
    rintro r24 s23 ⟨hd, rfl⟩
    refine ⟨fun y => cI (sp_here (d := d + 4) hG hT' h.2.2.1.1 hq) ?_, fun y => ?_⟩
    · have hnd : ¬ isD (ch q) = true := fun w => (hd.mpr w) y
      rintro r26 s25 ⟨rfl, rfl⟩
      refine cI (sp_isV (d := d + 4)) ?_
      rintro r28 s27 ⟨hv, rfl⟩
      refine ⟨fun w => ?_, fun w => cI (sp_here (d := d + 4) hG hT' h.2.2.1.1 hq) ?_⟩
      · have hb : pFac ch n k q = .inl (1, q) := by
          rw [hf]
          unfold pBase
          rw [if_neg hnd, if_neg (fun x => (hv.mpr x) w)]
        rw [h.2.2.1.1]
        refine cV (sp_wrongs (d := d + 4) h.2.2.1.2.1 (by decide) (by omega)) ?_
        rintro s29 rfl
        exact aft_bad (d := d + 5) (he _ hb) (MPr_bad h)
      · have hv' := hv.mp w
        have hlt : q < n := by
          by_cases x : n ≤ q
          · rw [hG.1 q x] at hv'; exact absurd hv' (by decide)
          · omega
        have hb : pFac ch n k q = .inr (q + 1, fun f => some (f (fct (ch q)))) := by
          rw [hf]
          unfold pBase
          rw [if_neg hnd, if_pos hv']
        rintro r31 s30 ⟨rfl, rfl⟩
        refine cV (sp_emitP (d := d + 3) (a := 1) (b := ch q) hT h hr hc (by omega) (q' := q + 1) (by omega) (by omega) (fun s => am_up s 82 35 (w32 (s 82 35 + 1))) (fun s e35 => ?_)) ?_
        · rw [e35, w32_id (by omega) (by omega)]
          exact ⟨Fr.up Fr.rf (Or.inr (by decide)), by rw [am_up_eq, if_pos rfl], by rw [am_up_eq, if_neg (by decide)], by rw [am_up_eq, if_neg (by decide)]⟩
        · intro s32 h32
          exact hK _ [(1, ch q)] _ bh hb (SM_mono (SM_let hv') (by omega)) h32
    · have hd' := hd.mp y
      refine cI (sp_reads (d := d + 1) hG hT (lim := 999999) (by decide) h ⟨hq, hqn⟩) ?_
      intro r34 s33 hN
      have hg := gd_num (n := n) hG.1 (lim := 999999) hq hqn
      cases hh : pNum ch 999999 q with
      | inl e =>
        rw [hh] at hN hg
        have hb : pFac ch n k q = .inl e := by
          rw [hf]
          unfold pBase
          rw [if_pos hd', hh]
        have hKB := he _ hb
        have hN' : BAD r c0 e σ0 s33 := hN
        have hneg := BAD_neg hN' hKB.1
        refine cV (sp_emitB (d := d + 3) (by omega)) ?_
        rintro s35 rfl
        exact aft_bad (d := d + 5) hKB hN'
      | inr x =>
        rw [hh] at hN hg
        obtain ⟨rfl, hN2⟩ := hN
        have hb : pFac ch n k q = .inr (x.1, fun _ => some x.2) := by
          rw [hf]
          unfold pBase
          rw [if_pos hd', hh]
        refine cV (sp_emitP (d := d + 3) (a := 0) (b := x.2) hT hN2 hr hc (by omega) (q' := x.1) (by omega) (by omega) (fun s => s) (fun s e35 => ⟨Fr.rf, e35, rfl, rfl⟩)) ?_
        intro s35 h35
        exact hK _ [(0, x.2)] _ bh hb (SM_mono SM_num (by omega)) h35
theorem facms (hG : CG ch n (160 * r)) (hT : MTp ch n r σ0) (hr : 0 ≤ r ∧ r < 20) (hc : 0 ≤ c0) : ∀ k : Nat, k ≤ 5 → FACM Ln d ch n r c0 σ0 Q k := by
  intro k
  induction k with
  | zero => intro _; exact facm hG hT hr hc (by omega) (fun k' h => by omega)
  | succ k ih =>
    intro hk
    refine facm hG hT hr hc hk (fun k' h => ?_)
    obtain rfl : k' = k := by omega
    exact tsum hG hT hr hc (ih (by omega))
theorem summs (hG : CG ch n (160 * r)) (hT : MTp ch n r σ0) (hr : 0 ≤ r ∧ r < 20) (hc : 0 ≤ c0) (k : Nat) (hk : k ≤ 5) : SUMM Ln d ch n r c0 σ0 Q k := tsum hG hT hr hc (facms hG hT hr hc k hk)
end MF
