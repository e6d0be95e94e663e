/-! the model reads sums -/
section ME
variable {Ln : Int} {ch : Int → Int} {n r c0 : Int} {σ0 : AS}
/-- what must hold ahead of what is done behind a factor -/
def AFT (Ln : Int) (d : Nat) (Q : Option AV → AS → Prop) (s9 : AS) : Prop := am_b 0 ∧ (∃ T : Option AV → AS → Prop, am_M Ln d 154 [vR 82] (am_up s9 82 43 0) T ∧ ∀ (r11 : Int) s10, T (some (vI r11)) s10 →
        (r11 = 0 →
          am_E Ln d 171 39 [vR 82, vI 0] [] s10 Q) ∧
        (¬ (r11 = 0) →
          ∃ T : Option AV → AS → Prop, am_M Ln d 170 [vR 82] s10 T ∧ ∀ (r13 : Int) s12, T (some (vI r13)) s12 →
          (r13 = 0 →
            am_E Ln d 171 39 [vR 82, vI 0] [] s12 Q) ∧
          (¬ (r13 = 0) →
            am_E Ln d 171 39 [vR 82, vI 1] [] s12 Q)))
/-- what must hold where a factor begins -/
def FH (Ln : Int) (d : Nat) (Q : Option AV → AS → Prop) (σ : AS) : Prop := am_E Ln d 169 0 [vR 82] [] σ (am_rV (AFT Ln (d + 1) Q))
variable {d : Nat} {Q : Option AV → AS → Prop} {q op bh : Int} {S : List Int} {m : List (Int × Int)} {σ : AS}
theorem lh_F (h : σ 82 37 = 0) (hb : σ 82 43 = 0) (hF : FH Ln d Q σ) : am_E Ln (d + 1) 171 39 [vR 82, vI 1] [] σ Q := by
  refine vl_X12_piece_39 _ _ ⟨fun z => absurd z (by decide), fun _ => cI (sp_goodG (d := d) h) ?_⟩
  rintro r5 s4 ⟨rfl, rfl⟩
  exact ⟨fun z => absurd z (by decide), fun _ => ⟨fun _ => ⟨_, vm_X12_factor _ hF, fun s9 h9 => h9⟩, fun z => absurd hb z⟩⟩
theorem lh_B (h : σ 82 37 = 0) (hb : σ 82 43 = 1) (hF : AFT Ln (d + 1) Q σ) : am_E Ln (d + 1) 171 39 [vR 82, vI 1] [] σ Q := by
  refine vl_X12_piece_39 _ _ ⟨fun z => absurd z (by decide), fun _ => cI (sp_goodG (d := d) h) ?_⟩
  rintro r5 s4 ⟨rfl, rfl⟩
  exact ⟨fun z => absurd z (by decide), fun _ => ⟨fun z => absurd z (by omega), fun _ => hF⟩⟩
theorem lh_bad {x : Int} (h : σ 82 37 ≠ 0) (hQ : Q none σ) : am_E Ln (d + 1) 171 39 [vR 82, vI x] [] σ Q := by
  have key : ∃ T : Option AV → AS → Prop, am_M Ln (d + 1) 154 [vR 82] σ T ∧ ∀ (r2 : Int) s1, T (some (vI r2)) s1 → (r2 = 0 → Q none s1) ∧ (¬ (r2 = 0) → ∃ T : Option AV → AS → Prop, am_M Ln (d + 1) 168 [vR 82] s1 T ∧ ∀ s3, T none s3 → Q none s3) := by
    refine cI (sp_goodB (d := d) h) ?_
    rintro r2 s1 ⟨rfl, rfl⟩
    exact ⟨fun _ => hQ, fun z => absurd rfl z⟩
  refine vl_X12_piece_39 _ _ ⟨fun _ => key, fun _ => cI (sp_goodB (d := d) h) ?_⟩
  rintro r5 s4 ⟨rfl, rfl⟩
  exact ⟨fun _ => key, fun z => absurd rfl z⟩
/-- a fault e ends the piece -/
def KB (r c0 : Int) (σ0 : AS) (Q : Option AV → AS → Prop) (e : Int × Int) : Prop := ((1 ≤ e.1 ∧ e.1 ≤ 5) ∧ 0 ≤ e.2) ∧ ∀ s, BAD r c0 e σ0 s → Q none s
theorem aft_bad {e : Int × Int} (hK : KB r c0 σ0 Q e) (h : BAD r c0 e σ0 σ) : AFT Ln (d + 1) Q σ := by
  have h2 : BAD r c0 e σ0 (am_up σ 82 43 0) := BAD_up h (by decide) (by decide)
  have hb := BAD_neg h2 hK.1
  refine ⟨am_b0, cI (sp_goodB (d := d) (by omega)) ?_⟩
  rintro r11 s10 ⟨rfl, rfl⟩
  exact ⟨fun _ => lh_bad (by omega) (hK.2 _ h2), fun z => absurd rfl z⟩
/-- what goesOn must bring about -/
def GO (Ln : Int) (d : Nat) (Q : Option AV → AS → Prop) (σ : AS) : Prop := ∃ T : Option AV → AS → Prop, am_M Ln d 170 [vR 82] σ T ∧ ∀ (r13 : Int) s12, T (some (vI r13)) s12 →
          (r13 = 0 →
            am_E Ln d 171 39 [vR 82, vI 0] [] s12 Q) ∧
          (¬ (r13 = 0) →
            am_E Ln d 171 39 [vR 82, vI 1] [] s12 Q)
theorem aft_G (h : MPr r c0 q op bh S m σ0 σ) (hG : ∀ s, MPr r c0 q op 0 S m σ0 s → GO Ln (d + 1) Q s) : AFT Ln (d + 1) Q σ := by
  have h2 := MPr_bh (bh' := 0) h
  refine ⟨am_b0, cI (sp_goodG (d := d) h2.2.2.1.2.1) ?_⟩
  rintro r11 s10 ⟨rfl, rfl⟩
  exact ⟨fun z => absurd z (by decide), fun _ => hG _ h2⟩
def arI (c : Int) : Prop := isT c = true ∨ isP c = true
theorem isT_P {c : Int} (h : isP c = true) : isT c = false := by
  have : c = 43 ∨ c = 45 := of_decide_eq_true h
  exact decide_eq_false (by omega)
/-- goesOn at * / % -/
theorem go_T (hG : CG ch n (160 * r)) (hT : MTp ch n r σ0) (hr : 0 ≤ r ∧ r < 20) (hc : 0 ≤ c0) {pe : List Int} (h : MPr r c0 q op 0 (pe ++ S) m σ0 σ) (hq : 0 ≤ q ∧ q ≤ n) (hpe : ∀ c ∈ pe, isT c = true) (hS : isT (S.headD 0) = false) (hcq : isT (ch q) = true) (hK : ∀ s, MPr r c0 (q + 1) op 0 (ch q :: S) (m ++ pe.map (fun c => (c, 0))) σ0 s → FH Ln (d + 5) Q s) : GO Ln (d + 6) Q σ := by
  have hn := hG.2.2.1
  have hT' := MTp_fr hT h.1
  have hlt : q < n := by
    by_cases y : n ≤ q
    · rw [hG.1 q y] at hcq; exact absurd hcq (by decide)
    · omega
  refine cI (P := fun v s => v = 1 ∧ MPr r c0 (q + 1) op 0 (ch q :: S) (m ++ pe.map (fun c => (c, 0))) σ0 s) (vm_X12_goesOn _ (cI (sp_here (d := d + 4) hG hT' h.2.2.1.1 hq.1) ?_)) ?_
  · rintro r2 s1 ⟨rfl, rfl⟩
    refine cI (sp_isT (d := d + 4)) ?_
    rintro r4 s3 ⟨ht, rfl⟩
    refine ⟨fun z => absurd (ht.mpr hcq) (fun w => w z), fun _ => cI (sp_isP (d := d + 4)) ?_⟩
    rintro r37 s36 ⟨hp, rfl⟩
    have : r37 = 0 := by
      by_cases z : r37 = 0
      · exact z
      · have := isT_P (hp.mp z); rw [hcq] at this; cases this
    rw [this]
    refine cV (sp_sums (d := d + 1) hT hr hc (by omega) hS (fun z => absurd rfl z) h (fun c hc => Or.inl (hpe c hc))) ?_
    intro s38 h38
    exact cV (sp_puts (d := d + 4) (c := ch q) h38 (by omega) hc) (fun s39 h39 => ⟨am_b1, rfl, h39⟩)
  · rintro r13 s12 ⟨rfl, h12⟩
    exact ⟨fun z => absurd z (by decide), fun _ => lh_F h12.2.2.1.2.1 h12.2.2.1.2.2.2.2.2.2 (hK _ h12)⟩
/-- goesOn at + - -/
theorem go_P (hG : CG ch n (160 * r)) (hT : MTp ch n r σ0) (hr : 0 ≤ r ∧ r < 20) (hc : 0 ≤ c0) {pe : List Int} (h : MPr r c0 q op 0 (pe ++ S) m σ0 σ) (hq : 0 ≤ q ∧ q ≤ n) (hpe : ∀ c ∈ pe, arI c) (hS1 : isT (S.headD 0) = false) (hS2 : isP (S.headD 0) = false) (hcq : isP (ch q) = true) (hK : ∀ s, MPr r c0 (q + 1) op 0 (ch q :: S) (m ++ pe.map (fun c => (c, 0))) σ0 s → FH Ln (d + 5) Q s) : GO Ln (d + 6) Q σ := by
  have hn := hG.2.2.1
  have hT' := MTp_fr hT h.1
  have hlt : q < n := by
    by_cases y : n ≤ q
    · rw [hG.1 q y] at hcq; exact absurd hcq (by decide)
    · omega
  have hnt := isT_P hcq
  refine cI (P := fun v s => v = 1 ∧ MPr r c0 (q + 1) op 0 (ch q :: S) (m ++ pe.map (fun c => (c, 0))) σ0 s) (vm_X12_goesOn _ (cI (sp_here (d := d + 4) hG hT' h.2.2.1.1 hq.1) ?_)) ?_
  · rintro r2 s1 ⟨rfl, rfl⟩
    refine cI (sp_isT (d := d + 4)) ?_
    rintro r4 s3 ⟨ht, rfl⟩
    refine ⟨fun _ => cI (sp_isP (d := d + 4)) ?_, fun z => absurd (ht.mp z) (by rw [hnt]; decide)⟩
    rintro r6 s5 ⟨hp, rfl⟩
    refine ⟨fun z => absurd (hp.mpr hcq) (fun w => w z), fun _ => cI (sp_isP (d := d + 4)) ?_⟩
    rintro r33 s32 ⟨hp2, rfl⟩
    have h33 : r33 ≠ 0 := hp2.mpr hcq
    refine cV (sp_sums (d := d + 1) hT hr hc (by omega) hS1 (fun _ => hS2) h (fun c hc => (hpe c hc).elim Or.inl (fun y => Or.inr ⟨h33, y⟩))) ?_
    intro s38 h38
    exact cV (sp_puts (d := d + 4) (c := ch q) h38 (by omega) hc) (fun s39 h39 => ⟨am_b1, rfl, h39⟩)
  · rintro r13 s12 ⟨rfl, h12⟩
    exact ⟨fun z => absurd z (by decide), fun _ => lh_F h12.2.2.1.2.1 h12.2.2.1.2.2.2.2.2.2 (hK _ h12)⟩
/-- goesOn at what is no operator of sums -/
theorem go_N (hG : CG ch n (160 * r)) (hT : MTp ch n r σ0) (hr : 0 ≤ r ∧ r < 20) (hc : 0 ≤ c0) {pe : List Int} (h : MPr r c0 q op 0 (pe ++ S) m σ0 σ) (hq : 0 ≤ q ∧ q ≤ n) (hpe : ∀ c ∈ pe, arI c) (hS1 : isT (S.headD 0) = false) (hS2 : isP (S.headD 0) = false) (hq1 : isT (ch q) = false) (hq2 : isP (ch q) = false) {R : Int → AS → Prop}
    (hK : ∀ s7, MPr r c0 q op 0 S (m ++ pe.map (fun c => (c, 0))) σ0 s7 →
      (ch q = 93 →
        ∃ T : Option AV → AS → Prop, am_M Ln (d + 5) 156 [vR 82] s7 T ∧ ∀ (r9 : Int) s8, T (some (vI r9)) s8 →
        (r9 = 91 →
          am_b 1 ∧ (am_b 1 ∧ R 1 (am_up (am_up (am_up (am_up s8 82 41 (w32 (s8 82 41 - 1))) 82 40 (w32 (s8 82 40 - 1))) 82 35 (w32 (s8 82 35 + 1))) 82 43 1))) ∧
        (¬ (r9 = 91) →
          ∃ T : Option AV → AS → Prop, am_M Ln (d + 5) 153 [vR 82, vI 1, vI (s8 82 35)] s8 T ∧ ∀ s10, T none s10 →
          am_b 0 ∧ R 0 s10)) ∧
      (¬ (ch q = 93) →
        ∃ T : Option AV → AS → Prop, am_M Ln (d + 5) 164 [vI (ch q)] s7 T ∧ ∀ (r12 : Int) s11, T (some (vI r12)) s11 →
        (r12 = 0 →
          ∃ T : Option AV → AS → Prop, am_M Ln (d + 5) 156 [vR 82] s11 T ∧ ∀ (r14 : Int) s13, T (some (vI r14)) s13 →
          ∃ T : Option AV → AS → Prop, am_M Ln (d + 5) 164 [vI r14] s13 T ∧ ∀ (r16 : Int) s15, T (some (vI r16)) s15 →
          (r16 = 0 →
            ∃ T : Option AV → AS → Prop, am_M Ln (d + 5) 153 [vR 82, vI 1, vI (s15 82 35)] s15 T ∧ ∀ s17, T none s17 →
            am_b 0 ∧ R 0 s17) ∧
          (¬ (r16 = 0) →
            ∃ T : Option AV → AS → Prop, am_M Ln (d + 5) 156 [vR 82] s15 T ∧ ∀ (r19 : Int) s18, T (some (vI r19)) s18 →
            ∃ T : Option AV → AS → Prop, am_M Ln (d + 5) 155 [vR 82, vI r19, vI 0] s18 T ∧ ∀ s20, T none s20 →
            am_b 0 ∧ R 0 (am_up s20 82 41 (w32 (s20 82 41 - 1))))) ∧
        (¬ (r12 = 0) →
          ∃ T : Option AV → AS → Prop, am_M Ln (d + 5) 156 [vR 82] s11 T ∧ ∀ (r22 : Int) s21, T (some (vI r22)) s21 →
          (r22 = 91 →
            ∃ T : Option AV → AS → Prop, am_M Ln (d + 5) 153 [vR 82, vI 1, vI (s21 82 35)] s21 T ∧ ∀ s23, T none s23 →
            ∃ T : Option AV → AS → Prop, am_M Ln (d + 5) 157 [vR 82, vI (ch q)] s23 T ∧ ∀ s24, T none s24 →
            am_b 1 ∧ R 1 s24) ∧
          (¬ (r22 = 91) →
            ∃ T : Option AV → AS → Prop, am_M Ln (d + 5) 156 [vR 82] s21 T ∧ ∀ (r26 : Int) s25, T (some (vI r26)) s25 →
            ∃ T : Option AV → AS → Prop, am_M Ln (d + 5) 164 [vI r26] s25 T ∧ ∀ (r28 : Int) s27, T (some (vI r28)) s27 →
            (r28 = 0 →
              ∃ T : Option AV → AS → Prop, am_M Ln (d + 5) 157 [vR 82, vI (ch q)] s27 T ∧ ∀ s29, T none s29 →
              am_b 1 ∧ R 1 s29) ∧
            (¬ (r28 = 0) →
              ∃ T : Option AV → AS → Prop, am_M Ln (d + 5) 153 [vR 82, vI 1, vI (s27 82 35)] s27 T ∧ ∀ s30, T none s30 →
              ∃ T : Option AV → AS → Prop, am_M Ln (d + 5) 157 [vR 82, vI (ch q)] s30 T ∧ ∀ s31, T none s31 →
              am_b 1 ∧ R 1 s31))))) : am_M Ln (d + 6) 170 [vR 82] σ (am_rI R) := by
  have hn := hG.2.2.1
  have hT' := MTp_fr hT h.1
  refine vm_X12_goesOn _ (cI (sp_here (d := d + 4) hG hT' h.2.2.1.1 hq.1) ?_)
  rintro r2 s1 ⟨rfl, rfl⟩
  refine cI (sp_isT (d := d + 4)) ?_
  rintro r4 s3 ⟨ht, rfl⟩
  refine ⟨fun _ => cI (sp_isP (d := d + 4)) ?_, fun z => absurd (ht.mp z) (by rw [hq1]; decide)⟩
  rintro r6 s5 ⟨hp, rfl⟩
  refine ⟨fun _ => ?_, fun z => absurd (hp.mp z) (by rw [hq2]; decide)⟩
  exact cV (sp_sums (d := d + 1) hT hr hc (by omega) hS1 (fun _ => hS2) h (fun c hc => (hpe c hc).elim Or.inl (fun y => Or.inr ⟨by decide, y⟩))) (fun s7 h7 => hK s7 h7)
end ME
