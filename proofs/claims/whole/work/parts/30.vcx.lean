/-! verification conditions of the methods of the class, printed by wip/tools/gen_vc.py -/
set_option maxRecDepth 100000 in
theorem vm_X0_set {Ln : Int} {d : Nat} {Q : Option AV → AS → Prop} (σ : AS) (a1 a2 : Int) (h :
  (0 ≤ a1 ∧ a1 < 10) ∧ ((σ 71 a1 = 0 →
    (a2 = 0 →
      (0 ≤ a1 ∧ a1 < 10) ∧ ((a2 = 0 →
        am_b 1 ∧ Q (some (vI 1)) (am_up (am_up σ 71 a1 a2) 70 4 (w32 (w32 (σ 70 4 - 0) + 0)))) ∧
      (¬ (a2 = 0) →
        am_b 1 ∧ Q (some (vI 1)) (am_up (am_up σ 71 a1 a2) 70 4 (w32 (w32 (σ 70 4 - 0) + 1)))))) ∧
    (¬ (a2 = 0) →
      (w32 (σ 70 4 - 0) < 4 →
        (0 ≤ a1 ∧ a1 < 10) ∧ ((a2 = 0 →
          am_b 1 ∧ Q (some (vI 1)) (am_up (am_up σ 71 a1 a2) 70 4 (w32 (w32 (σ 70 4 - 0) + 0)))) ∧
        (¬ (a2 = 0) →
          am_b 1 ∧ Q (some (vI 1)) (am_up (am_up σ 71 a1 a2) 70 4 (w32 (w32 (σ 70 4 - 0) + 1)))))) ∧
      (¬ (w32 (σ 70 4 - 0) < 4) →
        am_b 0 ∧ Q (some (vI 0)) σ))) ∧
  (¬ (σ 71 a1 = 0) →
    (a2 = 0 →
      (0 ≤ a1 ∧ a1 < 10) ∧ ((a2 = 0 →
        am_b 1 ∧ Q (some (vI 1)) (am_up (am_up σ 71 a1 a2) 70 4 (w32 (w32 (σ 70 4 - 1) + 0)))) ∧
      (¬ (a2 = 0) →
        am_b 1 ∧ Q (some (vI 1)) (am_up (am_up σ 71 a1 a2) 70 4 (w32 (w32 (σ 70 4 - 1) + 1)))))) ∧
    (¬ (a2 = 0) →
      (w32 (σ 70 4 - 1) < 4 →
        (0 ≤ a1 ∧ a1 < 10) ∧ ((a2 = 0 →
          am_b 1 ∧ Q (some (vI 1)) (am_up (am_up σ 71 a1 a2) 70 4 (w32 (w32 (σ 70 4 - 1) + 0)))) ∧
        (¬ (a2 = 0) →
          am_b 1 ∧ Q (some (vI 1)) (am_up (am_up σ 71 a1 a2) 70 4 (w32 (w32 (σ 70 4 - 1) + 1)))))) ∧
      (¬ (w32 (σ 70 4 - 1) < 4) →
        am_b 0 ∧ Q (some (vI 0)) σ))))) : am_M Ln (d + 1) 1 [vR 70, vI a1, vI a2] σ Q :=
  am_vc_E (d := d) (m := 1) (cut := []) 31 0 (am_entry 1 [vR 70, vI a1, vI a2]) [] σ h
set_option maxRecDepth 100000 in
theorem vm_X0_addBar {Ln : Int} {d : Nat} {Q : Option AV → AS → Prop} (σ : AS) (a1 a2 : Int) (h :
  ∃ T : Option AV → AS → Prop, am_M Ln d 3 [vR 70, vI a1, vI a2] σ T ∧ ∀ (r2 : Int) s1, T (some (vI r2)) s1 →
  (r2 = 0 →
    (s1 70 6 < 40 →
      (0 ≤ a1 ∧ a1 < 50) ∧ ((0 ≤ a1 ∧ a1 < 50) ∧ ((0 ≤ a2 ∧ a2 < 50) ∧ ((0 ≤ a2 ∧ a2 < 50) ∧ (am_b 1 ∧ Q (some (vI 1)) (am_up (am_up (am_up s1 72 a1 (lOr (s1 72 a1) (lShl 1 a2))) 72 a2 (lOr ((am_up s1 72 a1 (lOr (s1 72 a1) (lShl 1 a2))) 72 a2) (lShl 1 a1))) 70 6 (w32 (s1 70 6 + 1)))))))) ∧
    (¬ (s1 70 6 < 40) →
      am_b 0 ∧ Q (some (vI 0)) s1)) ∧
  (¬ (r2 = 0) →
    am_b 0 ∧ Q (some (vI 0)) s1)) : am_M Ln (d + 1) 2 [vR 70, vI a1, vI a2] σ Q :=
  am_vc_E (d := d) (m := 2) (cut := []) 37 0 (am_entry 2 [vR 70, vI a1, vI a2]) [] σ h
set_option maxRecDepth 100000 in
theorem vm_X0_isBarred {Ln : Int} {d : Nat} {Q : Option AV → AS → Prop} (σ : AS) (a1 a2 : Int) (h :
  (0 ≤ a1 ∧ a1 < 50) ∧ ((lCmp (lAnd (lShr (σ 72 a1) a2) 1) 0 = 0 →
    am_b 0 ∧ Q (some (vI 0)) σ) ∧
  (¬ (lCmp (lAnd (lShr (σ 72 a1) a2) 1) 0 = 0) →
    am_b 1 ∧ Q (some (vI 1)) σ))) : am_M Ln (d + 1) 3 [vR 70, vI a1, vI a2] σ Q :=
  am_vc_E (d := d) (m := 3) (cut := []) 14 0 (am_entry 3 [vR 70, vI a1, vI a2]) [] σ h
set_option maxRecDepth 100000 in
theorem vm_X0_rows {Ln : Int} {d : Nat} {Q : Option AV → AS → Prop} (σ : AS) (h :
  am_E Ln d 4 4 [vR 70, vI 1, vI 0] [] σ Q) : am_M Ln (d + 1) 4 [vR 70] σ Q :=
  am_vc_E (d := d) (m := 4) (cut := [(4, [true, true, true])]) 4 0 (am_entry 4 [vR 70]) [] σ h
set_option maxRecDepth 100000 in
theorem vl_X0_rows_4 {Ln : Int} {d : Nat} {Q : Option AV → AS → Prop} (σ : AS) (x1 x2 : Int) (h :
  (σ 70 4 ≤ x2 →
    Q (some (vI x1)) σ) ∧
  (¬ (σ 70 4 ≤ x2) →
    am_E Ln d 4 4 [vR 70, vI (w32 (x1 * 5)), vI (w32 (x2 + 1))] [] σ Q)) : am_E Ln d 4 4 [vR 70, vI x1, vI x2] [] σ Q :=
  am_vc_E (d := d) (m := 4) (cut := [(4, [true, true, true])]) 10 4 [vR 70, vI x1, vI x2] [] σ h
set_option maxRecDepth 100000 in
theorem vm_X0_prepare {Ln : Int} {d : Nat} {Q : Option AV → AS → Prop} (σ : AS) (a1 : Int) (h :
  am_E Ln d 5 4 [vR 70, vI a1, vI 0, vI 0] [] σ Q) : am_M Ln (d + 1) 5 [vR 70, vI a1] σ Q :=
  am_vc_E (d := d) (m := 5) (cut := [(4, [true, true, true, true]), (59, [true, false, false, false])]) 4 0 (am_entry 5 [vR 70, vI a1]) [] σ h
set_option maxRecDepth 100000 in
theorem vl_X0_prepare_4 {Ln : Int} {d : Nat} {Q : Option AV → AS → Prop} (σ : AS) (x1 x2 x3 : Int) (h :
  (σ 4 2 ≤ x3 →
    ∃ T : Option AV → AS → Prop, am_M Ln d 31 [vR 40, vI x1, vI x1] σ T ∧ ∀ s1, T none s1 →
    am_E Ln d 5 59 [vR 70, vU, vU, vU] [] (am_up s1 70 9 0) Q) ∧
  (¬ (σ 4 2 ≤ x3) →
    (4 ≤ x2 →
      ∃ T : Option AV → AS → Prop, am_M Ln d 31 [vR 40, vI x1, vI x1] σ T ∧ ∀ s2, T none s2 →
      am_E Ln d 5 59 [vR 70, vU, vU, vU] [] (am_up s2 70 9 0) Q) ∧
    (¬ (4 ≤ x2) →
      (0 ≤ x3 ∧ x3 < 10) ∧ ((σ 71 x3 = 0 →
        am_E Ln d 5 4 [vR 70, vI x1, vI x2, vI (w32 (x3 + 1))] [] σ Q) ∧
      (¬ (σ 71 x3 = 0) →
        (0 ≤ x2 ∧ x2 < 4) ∧ (am_E Ln d 5 4 [vR 70, vI x1, vI (w32 (x2 + 1)), vI (w32 (x3 + 1))] [] (am_up σ 73 x2 x3) Q)))))) : am_E Ln d 5 4 [vR 70, vI x1, vI x2, vI x3] [] σ Q :=
  am_vc_E (d := d) (m := 5) (cut := [(4, [true, true, true, true]), (59, [true, false, false, false])]) 21 4 [vR 70, vI x1, vI x2, vI x3] [] σ h
set_option maxRecDepth 100000 in
theorem vl_X0_prepare_59 {Ln : Int} {d : Nat} {Q : Option AV → AS → Prop} (σ : AS) (h :
  (σ 40 7 ≤ σ 70 9 →
    ∃ T : Option AV → AS → Prop, am_M Ln d 73 [vR 41] σ T ∧ ∀ s1, T none s1 →
    ∃ T : Option AV → AS → Prop, am_M Ln d 36 [vR 40, vI 0, vI (s1 70 9)] s1 T ∧ ∀ s2, T none s2 →
    ∃ T : Option AV → AS → Prop, am_M Ln d 34 [vR 40] s2 T ∧ ∀ s3, T none s3 →
    Q none s3) ∧
  (¬ (σ 40 7 ≤ σ 70 9) →
    (0 ≤ σ 70 9 ∧ σ 70 9 < 100) ∧ (∃ T : Option AV → AS → Prop, am_M Ln d 6 [vR 70, vI (σ 65 (σ 70 9))] σ T ∧ ∀ (r5 : Int) s4, T (some (vI r5)) s4 →
    (r5 = 0 →
      am_E Ln d 5 59 [vR 70, vU, vU, vU] [] (am_up s4 70 9 (w32 (s4 70 9 + 1))) Q) ∧
    (¬ (r5 = 0) →
      ∃ T : Option AV → AS → Prop, am_M Ln d 73 [vR 41] s4 T ∧ ∀ s6, T none s6 →
      ∃ T : Option AV → AS → Prop, am_M Ln d 36 [vR 40, vI 0, vI (s6 70 9)] s6 T ∧ ∀ s7, T none s7 →
      ∃ T : Option AV → AS → Prop, am_M Ln d 34 [vR 40] s7 T ∧ ∀ s8, T none s8 →
      Q none s8)))) : am_E Ln d 5 59 [vR 70, vU, vU, vU] [] σ Q :=
  am_vc_E (d := d) (m := 5) (cut := [(4, [true, true, true, true]), (59, [true, false, false, false])]) 29 59 [vR 70, vU, vU, vU] [] σ h
set_option maxRecDepth 100000 in
theorem vm_X0_isChanged {Ln : Int} {d : Nat} {Q : Option AV → AS → Prop} (σ : AS) (a1 : Int) (h :
  ∃ T : Option AV → AS → Prop, am_M Ln d 22 [vR 7, vI a1] σ T ∧ ∀ (r2 : Int) s1, T (some (vI r2)) s1 →
  (r2 = 0 →
    am_b 0 ∧ Q (some (vI 0)) s1) ∧
  (¬ (r2 = 0) →
    (0 ≤ a1 ∧ a1 < 100) ∧ ((0 ≤ s1 9 a1 ∧ s1 9 a1 < 10) ∧ ((s1 71 (s1 9 a1) = 0 →
      am_b 0 ∧ Q (some (vI 0)) s1) ∧
    (¬ (s1 71 (s1 9 a1) = 0) →
      am_b 1 ∧ Q (some (vI 1)) s1))))) : am_M Ln (d + 1) 6 [vR 70, vI a1] σ Q :=
  am_vc_E (d := d) (m := 6) (cut := []) 17 0 (am_entry 6 [vR 70, vI a1]) [] σ h
set_option maxRecDepth 100000 in
theorem vm_X0_search {Ln : Int} {d : Nat} {Q : Option AV → AS → Prop} (σ : AS) (a1 a2 : Int) (h :
  ∃ T : Option AV → AS → Prop, am_M Ln d 5 [vR 70, vI a2] σ T ∧ ∀ s1, T none s1 →
  ∃ T : Option AV → AS → Prop, am_M Ln d 4 [vR 70] (am_up s1 70 10 (-1)) T ∧ ∀ (r3 : Int) s2, T (some (vI r3)) s2 →
  am_E Ln d 7 18 [vR 70, vI a1, vU, vI r3, vI 0, vU] [] s2 Q) : am_M Ln (d + 1) 7 [vR 70, vI a1, vI a2] σ Q :=
  am_vc_E (d := d) (m := 7) (cut := [(18, [true, true, false, true, true, false])]) 11 0 (am_entry 7 [vR 70, vI a1, vI a2]) [] σ h
set_option maxRecDepth 100000 in
theorem vl_X0_search_18 {Ln : Int} {d : Nat} {Q : Option AV → AS → Prop} (σ : AS) (x1 x3 x4 : Int) (h :
  (x3 ≤ x4 →
    Q none σ) ∧
  (¬ (x3 ≤ x4) →
    ∃ T : Option AV → AS → Prop, am_M Ln d 9 [vR 70, vI x4] σ T ∧ ∀ s1, T none s1 →
    ∃ T : Option AV → AS → Prop, am_M Ln d 10 [vR 70] s1 T ∧ ∀ (r3 : Int) s2, T (some (vI r3)) s2 →
    (r3 = 0 →
      am_E Ln d 7 18 [vR 70, vI x1, vU, vI x3, vI (w32 (x4 + 1)), vU] [] s2 Q) ∧
    (¬ (r3 = 0) →
      ∃ T : Option AV → AS → Prop, am_M Ln d 11 [vR 70, vI x1] s2 T ∧ ∀ (r5 : Int) s4, T (some (vI r5)) s4 →
      (r5 ≤ s4 70 10 →
        am_E Ln d 7 18 [vR 70, vI x1, vU, vI x3, vI (w32 (x4 + 1)), vU] [] s4 Q) ∧
      (¬ (r5 ≤ s4 70 10) →
        (0 ≤ (0 : Int) ∧ 0 ≤ (0 : Int) ∧ 0 ≤ (4 : Int) ∧ (0 : Int) + 4 ≤ 4 ∧ (0 : Int) + 4 ≤ 4) ∧ (am_E Ln d 7 18 [vR 70, vI x1, vU, vI x3, vI (w32 (x4 + 1)), vU] [] (am_cpy (am_up s4 70 10 r5) 74 75 0 0 4) Q))))) : am_E Ln d 7 18 [vR 70, vI x1, vU, vI x3, vI x4, vU] [] σ Q :=
  am_vc_E (d := d) (m := 7) (cut := [(18, [true, true, false, true, true, false])]) 30 18 [vR 70, vI x1, vU, vI x3, vI x4, vU] [] σ h
set_option maxRecDepth 100000 in
theorem vm_X0_spellFromFirst {Ln : Int} {d : Nat} {Q : Option AV → AS → Prop} (σ : AS) (a1 : Int) (h :
  am_E Ln d 8 4 [vR 70, vU, vI a1, vI 0] [] σ Q) : am_M Ln (d + 1) 8 [vR 70, vI a1] σ Q :=
  am_vc_E (d := d) (m := 8) (cut := [(4, [true, false, true, true])]) 4 0 (am_entry 8 [vR 70, vI a1]) [] σ h
set_option maxRecDepth 100000 in
theorem vl_X0_spellFromFirst_4 {Ln : Int} {d : Nat} {Q : Option AV → AS → Prop} (σ : AS) (x2 x3 : Int) (h :
  (σ 70 4 ≤ x3 →
    Q none σ) ∧
  (¬ (σ 70 4 ≤ x3) →
    (4 ≤ x3 →
      Q none σ) ∧
    (¬ (4 ≤ x3) →
      ¬ (5 : Int) = 0 ∧ ((0 ≤ x3 ∧ x3 < 4) ∧ (¬ (5 : Int) = 0 ∧ (am_E Ln d 8 4 [vR 70, vU, vI (w32 (Int.tdiv x2 5)), vI (w32 (x3 + 1))] [] (am_up σ 74 x3 (Int.tmod x2 5)) Q)))))) : am_E Ln d 8 4 [vR 70, vU, vI x2, vI x3] [] σ Q :=
  am_vc_E (d := d) (m := 8) (cut := [(4, [true, false, true, true])]) 20 4 [vR 70, vU, vI x2, vI x3] [] σ h
set_option maxRecDepth 100000 in
theorem vm_X0_spellFromLast {Ln : Int} {d : Nat} {Q : Option AV → AS → Prop} (σ : AS) (a1 : Int) (h :
  am_E Ln d 9 9 [vR 70, vU, vI a1, vI (w32 (σ 70 4 - 1))] [] σ Q) : am_M Ln (d + 1) 9 [vR 70, vI a1] σ Q :=
  am_vc_E (d := d) (m := 9) (cut := [(9, [true, false, true, true])]) 7 0 (am_entry 9 [vR 70, vI a1]) [] σ h
set_option maxRecDepth 100000 in
theorem vl_X0_spellFromLast_9 {Ln : Int} {d : Nat} {Q : Option AV → AS → Prop} (σ : AS) (x2 x3 : Int) (h :
  (x3 < 0 →
    Q none σ) ∧
  (¬ (x3 < 0) →
    ¬ (5 : Int) = 0 ∧ ((0 ≤ x3 ∧ x3 < 4) ∧ (¬ (5 : Int) = 0 ∧ (am_E Ln d 9 9 [vR 70, vU, vI (w32 (Int.tdiv x2 5)), vI (w32 (x3 + (-1)))] [] (am_up σ 74 x3 (Int.tmod x2 5)) Q))))) : am_E Ln d 9 9 [vR 70, vU, vI x2, vI x3] [] σ Q :=
  am_vc_E (d := d) (m := 9) (cut := [(9, [true, false, true, true])]) 15 9 [vR 70, vU, vI x2, vI x3] [] σ h
set_option maxRecDepth 100000 in
theorem vm_X0_isLawful {Ln : Int} {d : Nat} {Q : Option AV → AS → Prop} (σ : AS) (h :
  am_E Ln d 10 2 [vR 70, vI 0, vU] [] σ Q) : am_M Ln (d + 1) 10 [vR 70] σ Q :=
  am_vc_E (d := d) (m := 10) (cut := [(2, [true, true, false]), (39, [true, true, true])]) 2 0 (am_entry 10 [vR 70]) [] σ h
set_option maxRecDepth 100000 in
theorem vl_X0_isLawful_2 {Ln : Int} {d : Nat} {Q : Option AV → AS → Prop} (σ : AS) (x1 : Int) (h :
  (σ 70 4 ≤ x1 →
    am_b 1 ∧ Q (some (vI 1)) σ) ∧
  (¬ (σ 70 4 ≤ x1) →
    (0 ≤ x1 ∧ x1 < 4) ∧ ((0 ≤ σ 73 x1 ∧ σ 73 x1 < 10) ∧ ((0 ≤ x1 ∧ x1 < 4) ∧ ((bAnd (bShr (σ 71 (σ 73 x1)) (σ 74 x1)) 1 = 0 →
      am_b 0 ∧ Q (some (vI 0)) σ) ∧
    (¬ (bAnd (bShr (σ 71 (σ 73 x1)) (σ 74 x1)) 1 = 0) →
      am_E Ln d 10 39 [vR 70, vI x1, vI (w32 (x1 + 1))] [] σ Q)))))) : am_E Ln d 10 2 [vR 70, vI x1, vU] [] σ Q :=
  am_vc_E (d := d) (m := 10) (cut := [(2, [true, true, false]), (39, [true, true, true])]) 23 2 [vR 70, vI x1, vU] [] σ h
set_option maxRecDepth 100000 in
theorem vl_X0_isLawful_39 {Ln : Int} {d : Nat} {Q : Option AV → AS → Prop} (σ : AS) (x1 x2 : Int) (h :
  (σ 70 4 ≤ x2 →
    am_E Ln d 10 2 [vR 70, vI (w32 (x1 + 1)), vU] [] σ Q) ∧
  (¬ (σ 70 4 ≤ x2) →
    (0 ≤ x1 ∧ x1 < 4) ∧ ((0 ≤ x1 ∧ x1 < 4) ∧ ((0 ≤ x2 ∧ x2 < 4) ∧ ((0 ≤ x2 ∧ x2 < 4) ∧ (∃ T : Option AV → AS → Prop, am_M Ln d 3 [vR 70, vI (w32 (w32 ((σ 73 x1) * 5) + (σ 74 x1))), vI (w32 (w32 ((σ 73 x2) * 5) + (σ 74 x2)))] σ T ∧ ∀ (r2 : Int) s1, T (some (vI r2)) s1 →
    (r2 = 0 →
      am_E Ln d 10 39 [vR 70, vI x1, vI (w32 (x2 + 1))] [] s1 Q) ∧
    (¬ (r2 = 0) →
      am_b 0 ∧ Q (some (vI 0)) s1))))))) : am_E Ln d 10 39 [vR 70, vI x1, vI x2] [] σ Q :=
  am_vc_E (d := d) (m := 10) (cut := [(2, [true, true, false]), (39, [true, true, true])]) 31 39 [vR 70, vI x1, vI x2] [] σ h
set_option maxRecDepth 100000 in
theorem vm_X0_worth {Ln : Int} {d : Nat} {Q : Option AV → AS → Prop} (σ : AS) (a1 : Int) (h :
  am_E Ln d 11 2 [vR 70, vI a1, vI 0] [] σ Q) : am_M Ln (d + 1) 11 [vR 70, vI a1] σ Q :=
  am_vc_E (d := d) (m := 11) (cut := [(2, [true, true, true])]) 2 0 (am_entry 11 [vR 70, vI a1]) [] σ h
set_option maxRecDepth 100000 in
theorem vl_X0_worth_2 {Ln : Int} {d : Nat} {Q : Option AV → AS → Prop} (σ : AS) (x1 x2 : Int) (h :
  (σ 70 4 ≤ x2 →
    ∃ T : Option AV → AS → Prop, am_M Ln d 35 [vR 40] σ T ∧ ∀ s1, T none s1 →
    ∃ T : Option AV → AS → Prop, am_M Ln d 36 [vR 40, vI (s1 70 9), vI (s1 40 7)] s1 T ∧ ∀ s2, T none s2 →
    ∃ T : Option AV → AS → Prop, am_M Ln d 46 [vR 40, vI x1] s2 T ∧ ∀ (r4 : Int) s3, T (some (vI r4)) s3 →
    Q (some (vI r4)) s3) ∧
  (¬ (σ 70 4 ≤ x2) →
    (0 ≤ x2 ∧ x2 < 4) ∧ ((0 ≤ x2 ∧ x2 < 4) ∧ ((0 ≤ σ 73 x2 ∧ σ 73 x2 < 10) ∧ (am_E Ln d 11 2 [vR 70, vI x1, vI (w32 (x2 + 1))] [] (am_up σ 66 (σ 73 x2) (σ 74 x2)) Q))))) : am_E Ln d 11 2 [vR 70, vI x1, vI x2] [] σ Q :=
  am_vc_E (d := d) (m := 11) (cut := [(2, [true, true, true])]) 20 2 [vR 70, vI x1, vI x2] [] σ h
set_option maxRecDepth 100000 in
theorem vm_X1_add {Ln : Int} {d : Nat} {Q : Option AV → AS → Prop} (σ : AS) (a1 a2 a3 : Int) (h :
  (σ 76 3 < 40 →
    (0 ≤ σ 76 3 ∧ σ 76 3 < 40) ∧ ((0 ≤ σ 76 3 ∧ σ 76 3 < 40) ∧ ((0 ≤ σ 76 3 ∧ σ 76 3 < 40) ∧ (Q (some (vI (w32 (w32 (σ 76 3 + 1) - 1)))) (am_up (am_up (am_up (am_up σ 77 (σ 76 3) a1) 78 (σ 76 3) a2) 79 (σ 76 3) a3) 76 3 (w32 (σ 76 3 + 1))))))) ∧
  (¬ (σ 76 3 < 40) →
    Q (some (vI (-1))) σ)) : am_M Ln (d + 1) 12 [vR 76, vI a1, vI a2, vI a3] σ Q :=
  am_vc_E (d := d) (m := 12) (cut := []) 33 0 (am_entry 12 [vR 76, vI a1, vI a2, vI a3]) [] σ h
set_option maxRecDepth 100000 in
theorem vm_X1_settle {Ln : Int} {d : Nat} {Q : Option AV → AS → Prop} (σ : AS) (a1 a2 : Int) (h :
  am_E Ln d 13 5 [vR 76, vI a1, vU, vI a2, vI 0, vU] [] σ Q) : am_M Ln (d + 1) 13 [vR 76, vI a1, vI a2] σ Q :=
  am_vc_E (d := d) (m := 13) (cut := [(5, [true, true, false, true, true, false])]) 4 0 (am_entry 13 [vR 76, vI a1, vI a2]) [] σ h
set_option maxRecDepth 100000 in
theorem vl_X1_settle_5 {Ln : Int} {d : Nat} {Q : Option AV → AS → Prop} (σ : AS) (x1 x3 x4 : Int) (h :
  (0 ≤ x1 ∧ x1 < 40) ∧ ((σ 79 x1 < x4 →
    (0 ≤ x1 ∧ x1 < 40) ∧ (Q (some (vI (σ 78 x1))) σ)) ∧
  (¬ (σ 79 x1 < x4) →
    (0 ≤ x1 ∧ x1 < 40) ∧ (∃ T : Option AV → AS → Prop, am_M Ln d 14 [vR 76, vI (σ 77 x1), vI x4] σ T ∧ ∀ (r2 : Int) s1, T (some (vI r2)) s1 →
    (r2 ≤ x3 →
      am_E Ln d 13 5 [vR 76, vI x1, vU, vI (w32 (x3 - r2)), vI (w32 (x4 + 1)), vU] [] s1 Q) ∧
    (¬ (r2 ≤ x3) →
      ∃ T : Option AV → AS → Prop, am_M Ln d 133 [vI x3, vR 80, vR 81] s1 T ∧ ∀ s3, T none s3 →
      (0 ≤ x1 ∧ x1 < 40) ∧ ((x4 = s3 79 x1 →
        (0 ≤ x1 ∧ x1 < 40) ∧ (Q (some (vI (s3 81 x1))) s3)) ∧
      (¬ (x4 = s3 79 x1) →
        Q (some (vI 0)) s3))))))) : am_E Ln d 13 5 [vR 76, vI x1, vU, vI x3, vI x4, vU] [] σ Q :=
  am_vc_E (d := d) (m := 13) (cut := [(5, [true, true, false, true, true, false])]) 35 5 [vR 76, vI x1, vU, vI x3, vI x4, vU] [] σ h
set_option maxRecDepth 100000 in
theorem vm_X1_gather {Ln : Int} {d : Nat} {Q : Option AV → AS → Prop} (σ : AS) (a1 a2 : Int) (h :
  ∃ T : Option AV → AS → Prop, am_M Ln d 245 [vR 80, vI 0] σ T ∧ ∀ s1, T none s1 →
  am_E Ln d 14 13 [vR 76, vI a1, vI a2, vI 0, vI 0] [] s1 Q) : am_M Ln (d + 1) 14 [vR 76, vI a1, vI a2] σ Q :=
  am_vc_E (d := d) (m := 14) (cut := [(13, [true, true, true, true, true])]) 8 0 (am_entry 14 [vR 76, vI a1, vI a2]) [] σ h
set_option maxRecDepth 100000 in
theorem vl_X1_gather_13 {Ln : Int} {d : Nat} {Q : Option AV → AS → Prop} (σ : AS) (x1 x2 x3 x4 : Int) (h :
  (σ 76 3 ≤ x4 →
    Q (some (vI x3)) σ) ∧
  (¬ (σ 76 3 ≤ x4) →
    (0 ≤ x4 ∧ x4 < 40) ∧ ((σ 77 x4 = x1 →
      (0 ≤ x4 ∧ x4 < 40) ∧ ((σ 79 x4 = x2 →
        (0 ≤ x4 ∧ x4 < 40) ∧ ((0 ≤ x4 ∧ x4 < 40) ∧ ((0 ≤ x4 ∧ x4 < 40) ∧ (am_E Ln d 14 13 [vR 76, vI x1, vI x2, vI (w32 (x3 + (σ 78 x4))), vI (w32 (x4 + 1))] [] (am_up σ 80 x4 (σ 78 x4)) Q)))) ∧
      (¬ (σ 79 x4 = x2) →
        am_E Ln d 14 13 [vR 76, vI x1, vI x2, vI x3, vI (w32 (x4 + 1))] [] σ Q))) ∧
    (¬ (σ 77 x4 = x1) →
      am_E Ln d 14 13 [vR 76, vI x1, vI x2, vI x3, vI (w32 (x4 + 1))] [] σ Q)))) : am_E Ln d 14 13 [vR 76, vI x1, vI x2, vI x3, vI x4] [] σ Q :=
  am_vc_E (d := d) (m := 14) (cut := [(13, [true, true, true, true, true])]) 33 13 [vR 76, vI x1, vI x2, vI x3, vI x4] [] σ h
set_option maxRecDepth 100000 in
theorem vm_X2_add {Ln : Int} {d : Nat} {Q : Option AV → AS → Prop} (σ : AS) (a1 a2 a3 a4 : Int) (h :
  (σ 19 4 < 100 →
    (0 ≤ σ 19 4 ∧ σ 19 4 < 100) ∧ ((0 ≤ σ 19 4 ∧ σ 19 4 < 100) ∧ ((0 ≤ σ 19 4 ∧ σ 19 4 < 100) ∧ ((0 ≤ σ 19 4 ∧ σ 19 4 < 100) ∧ (am_b 1 ∧ Q (some (vI 1)) (am_up (am_up (am_up (am_up (am_up σ 20 (σ 19 4) a1) 21 (σ 19 4) a2) 22 (σ 19 4) a3) 23 (σ 19 4) a4) 19 4 (w32 (σ 19 4 + 1)))))))) ∧
  (¬ (σ 19 4 < 100) →
    am_b 0 ∧ Q (some (vI 0)) σ)) : am_M Ln (d + 1) 15 [vR 19, vI a1, vI a2, vI a3, vI a4] σ Q :=
  am_vc_E (d := d) (m := 15) (cut := []) 36 0 (am_entry 15 [vR 19, vI a1, vI a2, vI a3, vI a4]) [] σ h
set_option maxRecDepth 100000 in
theorem vm_X2_knew {Ln : Int} {d : Nat} {Q : Option AV → AS → Prop} (σ : AS) (a1 a2 a3 a4 : Int) (h :
  am_E Ln d 16 3 [vR 19, vI a1, vI a2, vI a3, vI a4, vI 0] [] σ Q) : am_M Ln (d + 1) 16 [vR 19, vI a1, vI a2, vI a3, vI a4] σ Q :=
  am_vc_E (d := d) (m := 16) (cut := [(3, [true, true, true, true, true, true])]) 2 0 (am_entry 16 [vR 19, vI a1, vI a2, vI a3, vI a4]) [] σ h
set_option maxRecDepth 100000 in
theorem vl_X2_knew_3 {Ln : Int} {d : Nat} {Q : Option AV → AS → Prop} (σ : AS) (x1 x2 x3 x4 x5 : Int) (h :
  (σ 19 4 ≤ x5 →
    am_b 0 ∧ Q (some (vI 0)) σ) ∧
  (¬ (σ 19 4 ≤ x5) →
    (0 ≤ x5 ∧ x5 < 100) ∧ ((σ 20 x5 = x1 →
      (0 ≤ x5 ∧ x5 < 100) ∧ ((σ 21 x5 = x2 →
        (0 ≤ x5 ∧ x5 < 100) ∧ ((x3 < σ 22 x5 →
          am_E Ln d 16 3 [vR 19, vI x1, vI x2, vI x3, vI x4, vI (w32 (x5 + 1))] [] σ Q) ∧
        (¬ (x3 < σ 22 x5) →
          (0 ≤ x5 ∧ x5 < 100) ∧ ((x4 < σ 23 x5 →
            am_E Ln d 16 3 [vR 19, vI x1, vI x2, vI x3, vI x4, vI (w32 (x5 + 1))] [] σ Q) ∧
          (¬ (x4 < σ 23 x5) →
            am_b 1 ∧ Q (some (vI 1)) σ))))) ∧
      (¬ (σ 21 x5 = x2) →
        am_E Ln d 16 3 [vR 19, vI x1, vI x2, vI x3, vI x4, vI (w32 (x5 + 1))] [] σ Q))) ∧
    (¬ (σ 20 x5 = x1) →
      am_E Ln d 16 3 [vR 19, vI x1, vI x2, vI x3, vI x4, vI (w32 (x5 + 1))] [] σ Q)))) : am_E Ln d 16 3 [vR 19, vI x1, vI x2, vI x3, vI x4, vI x5] [] σ Q :=
  am_vc_E (d := d) (m := 16) (cut := [(3, [true, true, true, true, true, true])]) 30 3 [vR 19, vI x1, vI x2, vI x3, vI x4, vI x5] [] σ h
set_option maxRecDepth 100000 in
theorem vm_X3_begin {Ln : Int} {d : Nat} {Q : Option AV → AS → Prop} (σ : AS) (a1 a2 a3 a4 a5 : Int) (h :
  (100 ≤ σ 7 11 →
    Q none σ) ∧
  (¬ (100 ≤ σ 7 11) →
    (0 ≤ σ 7 11 ∧ σ 7 11 < 100) ∧ ((0 ≤ σ 7 11 ∧ σ 7 11 < 100) ∧ ((0 ≤ σ 7 11 ∧ σ 7 11 < 100) ∧ ((0 ≤ σ 7 11 ∧ σ 7 11 < 100) ∧ ((0 ≤ σ 7 11 ∧ σ 7 11 < 100) ∧ (Q none (am_up (am_up (am_up (am_up (am_up σ 8 (σ 7 11) a1) 9 (σ 7 11) a2) 10 (σ 7 11) a3) 11 (σ 7 11) a4) 12 (σ 7 11) (bAnd a5 1))))))))) : am_M Ln (d + 1) 17 [vR 7, vI a1, vI a2, vI a3, vI a4, vI a5] σ Q :=
  am_vc_E (d := d) (m := 17) (cut := []) 35 0 (am_entry 17 [vR 7, vI a1, vI a2, vI a3, vI a4, vI a5]) [] σ h
set_option maxRecDepth 100000 in
theorem vm_X3_end {Ln : Int} {d : Nat} {Q : Option AV → AS → Prop} (σ : AS) (a1 a2 a3 a4 : Int) (h :
  (σ 7 11 < 100 →
    (0 ≤ σ 7 11 ∧ σ 7 11 < 100) ∧ ((0 ≤ σ 7 11 ∧ σ 7 11 < 100) ∧ ((0 ≤ σ 7 11 ∧ σ 7 11 < 100) ∧ ((0 ≤ σ 7 11 ∧ σ 7 11 < 100) ∧ ((0 ≤ σ 7 11 ∧ σ 7 11 < 100) ∧ (∃ T : Option AV → AS → Prop, am_M Ln d 19 [vR 7, vI (σ 7 11)] (am_up (am_up (am_up (am_up (am_up σ 13 (σ 7 11) a1) 14 (σ 7 11) a2) 15 (σ 7 11) a3) 16 (σ 7 11) a4) 17 (σ 7 11) (-1)) T ∧ ∀ s1, T none s1 →
    Q (some (vI (w32 (w32 (s1 7 11 + 1) - 1)))) (am_up s1 7 11 (w32 (s1 7 11 + 1))))))))) ∧
  (¬ (σ 7 11 < 100) →
    Q (some (vI (-1))) σ)) : am_M Ln (d + 1) 18 [vR 7, vI a1, vI a2, vI a3, vI a4] σ Q :=
  am_vc_E (d := d) (m := 18) (cut := []) 49 0 (am_entry 18 [vR 7, vI a1, vI a2, vI a3, vI a4]) [] σ h
set_option maxRecDepth 100000 in
theorem vm_X3_sortIn {Ln : Int} {d : Nat} {Q : Option AV → AS → Prop} (σ : AS) (a1 : Int) (h :
  am_E Ln d 19 2 [vR 7, vI a1, vI a1] [] σ Q) : am_M Ln (d + 1) 19 [vR 7, vI a1] σ Q :=
  am_vc_E (d := d) (m := 19) (cut := [(2, [true, true, true])]) 2 0 (am_entry 19 [vR 7, vI a1]) [] σ h
set_option maxRecDepth 100000 in
theorem vl_X3_sortIn_2 {Ln : Int} {d : Nat} {Q : Option AV → AS → Prop} (σ : AS) (x1 x2 : Int) (h :
  (x2 ≤ 0 →
    (0 ≤ x2 ∧ x2 < 100) ∧ (Q none (am_up σ 18 x2 x1))) ∧
  (¬ (x2 ≤ 0) →
    (0 ≤ w32 (x2 - 1) ∧ w32 (x2 - 1) < 100) ∧ (∃ T : Option AV → AS → Prop, am_M Ln d 20 [vR 7, vI (σ 18 (w32 (x2 - 1))), vI x1] σ T ∧ ∀ (r2 : Int) s1, T (some (vI r2)) s1 →
    (r2 = 0 →
      (0 ≤ x2 ∧ x2 < 100) ∧ (Q none (am_up s1 18 x2 x1))) ∧
    (¬ (r2 = 0) →
      (0 ≤ w32 (x2 - 1) ∧ w32 (x2 - 1) < 100) ∧ ((0 ≤ x2 ∧ x2 < 100) ∧ (am_E Ln d 19 2 [vR 7, vI x1, vI (w32 (x2 + (-1)))] [] (am_up s1 18 x2 (s1 18 (w32 (x2 - 1)))) Q)))))) : am_E Ln d 19 2 [vR 7, vI x1, vI x2] [] σ Q :=
  am_vc_E (d := d) (m := 19) (cut := [(2, [true, true, true])]) 24 2 [vR 7, vI x1, vI x2] [] σ h
set_option maxRecDepth 100000 in
theorem vm_X3_isLater {Ln : Int} {d : Nat} {Q : Option AV → AS → Prop} (σ : AS) (a1 a2 : Int) (h :
  (0 ≤ a1 ∧ a1 < 100) ∧ ((0 ≤ a2 ∧ a2 < 100) ∧ ((σ 13 a2 < σ 13 a1 →
    am_b 1 ∧ Q (some (vI 1)) σ) ∧
  (¬ (σ 13 a2 < σ 13 a1) →
    (0 ≤ a1 ∧ a1 < 100) ∧ ((0 ≤ a2 ∧ a2 < 100) ∧ ((σ 13 a1 = σ 13 a2 →
      (0 ≤ a1 ∧ a1 < 100) ∧ ((0 ≤ a2 ∧ a2 < 100) ∧ ((σ 14 a1 ≤ σ 14 a2 →
        am_b 0 ∧ Q (some (vI 0)) σ) ∧
      (¬ (σ 14 a1 ≤ σ 14 a2) →
        am_b 1 ∧ Q (some (vI 1)) σ)))) ∧
    (¬ (σ 13 a1 = σ 13 a2) →
      am_b 0 ∧ Q (some (vI 0)) σ))))))) : am_M Ln (d + 1) 20 [vR 7, vI a1, vI a2] σ Q :=
  am_vc_E (d := d) (m := 20) (cut := []) 30 0 (am_entry 20 [vR 7, vI a1, vI a2]) [] σ h
set_option maxRecDepth 100000 in
theorem vm_X3_isKnown {Ln : Int} {d : Nat} {Q : Option AV → AS → Prop} (σ : AS) (a1 a2 : Int) (h :
  (0 ≤ a1 ∧ a1 < 100) ∧ ((a2 < σ 16 a1 →
    am_b 0 ∧ Q (some (vI 0)) σ) ∧
  (¬ (a2 < σ 16 a1) →
    (0 ≤ a1 ∧ a1 < 100) ∧ ((σ 17 a1 = (-1) →
      am_b 1 ∧ Q (some (vI 1)) σ) ∧
    (¬ (σ 17 a1 = (-1)) →
      (0 ≤ a1 ∧ a1 < 100) ∧ ((σ 17 a1 ≤ a2 →
        am_b 0 ∧ Q (some (vI 0)) σ) ∧
      (¬ (σ 17 a1 ≤ a2) →
        am_b 1 ∧ Q (some (vI 1)) σ))))))) : am_M Ln (d + 1) 21 [vR 7, vI a1, vI a2] σ Q :=
  am_vc_E (d := d) (m := 21) (cut := []) 21 0 (am_entry 21 [vR 7, vI a1, vI a2]) [] σ h
set_option maxRecDepth 100000 in
theorem vm_X3_takes {Ln : Int} {d : Nat} {Q : Option AV → AS → Prop} (σ : AS) (a1 : Int) (h :
  (0 ≤ a1 ∧ a1 < 100) ∧ ((σ 8 a1 = 1 →
    am_b 1 ∧ Q (some (vI 1)) σ) ∧
  (¬ (σ 8 a1 = 1) →
    (0 ≤ a1 ∧ a1 < 100) ∧ ((σ 8 a1 = 2 →
      am_b 1 ∧ Q (some (vI 1)) σ) ∧
    (¬ (σ 8 a1 = 2) →
      (0 ≤ a1 ∧ a1 < 100) ∧ ((σ 8 a1 = 3 →
        am_b 1 ∧ Q (some (vI 1)) σ) ∧
      (¬ (σ 8 a1 = 3) →
        am_b 0 ∧ Q (some (vI 0)) σ))))))) : am_M Ln (d + 1) 22 [vR 7, vI a1] σ Q :=
  am_vc_E (d := d) (m := 22) (cut := []) 21 0 (am_entry 22 [vR 7, vI a1]) [] σ h
set_option maxRecDepth 100000 in
theorem vm_X4_weigh {Ln : Int} {d : Nat} {Q : Option AV → AS → Prop} (σ : AS) (a1 a2 a3 a4 : Int) (h :
  ∃ T : Option AV → AS → Prop, am_M Ln d 31 [vR 40, vI 3999, vI a4] σ T ∧ ∀ s1, T none s1 →
  ∃ T : Option AV → AS → Prop, am_M Ln d 25 [vR 69, vI a3] s1 T ∧ ∀ s2, T none s2 →
  (w32 (s2 69 3 - (s2 69 2)) ≤ 6 →
    ∃ T : Option AV → AS → Prop, am_M Ln d 73 [vR 41] s2 T ∧ ∀ s3, T none s3 →
    ∃ T : Option AV → AS → Prop, am_M Ln d 36 [vR 40, vI 0, vI (s3 69 2)] s3 T ∧ ∀ s4, T none s4 →
    ∃ T : Option AV → AS → Prop, am_M Ln d 34 [vR 40] s4 T ∧ ∀ s5, T none s5 →
    ∃ T : Option AV → AS → Prop, am_M Ln d 27 [vR 69] s5 T ∧ ∀ s6, T none s6 →
    am_E Ln d 23 77 [vR 69, vI a1, vI a2, vU, vU, vI 1, vI 0] [] (am_up s6 69 6 0) Q) ∧
  (¬ (w32 (s2 69 3 - (s2 69 2)) ≤ 6) →
    am_b 0 ∧ Q (some (vI 0)) s2)) : am_M Ln (d + 1) 23 [vR 69, vI a1, vI a2, vI a3, vI a4] σ Q :=
  am_vc_E (d := d) (m := 23) (cut := [(77, [true, true, true, false, false, true, true])]) 37 0 (am_entry 23 [vR 69, vI a1, vI a2, vI a3, vI a4]) [] σ h
set_option maxRecDepth 100000 in
theorem vl_X4_weigh_77 {Ln : Int} {d : Nat} {Q : Option AV → AS → Prop} (σ : AS) (x1 x2 x5 x6 : Int) (h :
  (720 ≤ x6 →
    am_b 1 ∧ Q (some (vI 1)) σ) ∧
  (¬ (720 ≤ x6) →
    (x5 = 0 →
      am_b 1 ∧ Q (some (vI 1)) σ) ∧
    (¬ (x5 = 0) →
      ∃ T : Option AV → AS → Prop, am_M Ln d 26 [vR 69] σ T ∧ ∀ (r2 : Int) s1, T (some (vI r2)) s1 →
      (r2 = 0 →
        ∃ T : Option AV → AS → Prop, am_M Ln d 28 [vR 69] s1 T ∧ ∀ (r4 : Int) s3, T (some (vI r4)) s3 →
        am_E Ln d 23 77 [vR 69, vI x1, vI x2, vU, vU, vI r4, vI (w32 (x6 + 1))] [] s3 Q) ∧
      (¬ (r2 = 0) →
        ∃ T : Option AV → AS → Prop, am_M Ln d 35 [vR 40] s1 T ∧ ∀ s5, T none s5 →
        ∃ T : Option AV → AS → Prop, am_M Ln d 36 [vR 40, vI (s5 69 2), vI (s5 40 7)] s5 T ∧ ∀ s6, T none s6 →
        ∃ T : Option AV → AS → Prop, am_M Ln d 85 [vR 41, vI x1, vI x2] s6 T ∧ ∀ (r8 : Int) s7, T (some (vI r8)) s7 →
        ∃ T : Option AV → AS → Prop, am_M Ln d 24 [vR 69, vI r8] s7 T ∧ ∀ s9, T none s9 →
        ∃ T : Option AV → AS → Prop, am_M Ln d 28 [vR 69] s9 T ∧ ∀ (r11 : Int) s10, T (some (vI r11)) s10 →
        am_E Ln d 23 77 [vR 69, vI x1, vI x2, vU, vU, vI r11, vI (w32 (x6 + 1))] [] s10 Q)))) : am_E Ln d 23 77 [vR 69, vI x1, vI x2, vU, vU, vI x5, vI x6] [] σ Q :=
  am_vc_E (d := d) (m := 23) (cut := [(77, [true, true, true, false, false, true, true])]) 32 77 [vR 69, vI x1, vI x2, vU, vU, vI x5, vI x6] [] σ h
set_option maxRecDepth 100000 in
theorem vm_X4_note {Ln : Int} {d : Nat} {Q : Option AV → AS → Prop} (σ : AS) (a1 : Int) (h :
  (σ 69 6 = 0 →
    (σ 69 6 = 0 →
      Q none (am_up (am_up (am_up σ 69 4 a1) 69 5 a1) 69 6 (w32 (σ 69 6 + 1)))) ∧
    (¬ (σ 69 6 = 0) →
      Q none (am_up (am_up (am_up σ 69 4 a1) 69 5 (max (σ 69 5) a1)) 69 6 (w32 (σ 69 6 + 1))))) ∧
  (¬ (σ 69 6 = 0) →
    (σ 69 6 = 0 →
      Q none (am_up (am_up (am_up σ 69 4 (min (σ 69 4) a1)) 69 5 a1) 69 6 (w32 (σ 69 6 + 1)))) ∧
    (¬ (σ 69 6 = 0) →
      Q none (am_up (am_up (am_up σ 69 4 (min (σ 69 4) a1)) 69 5 (max (σ 69 5) a1)) 69 6 (w32 (σ 69 6 + 1)))))) : am_M Ln (d + 1) 24 [vR 69, vI a1] σ Q :=
  am_vc_E (d := d) (m := 24) (cut := []) 25 0 (am_entry 24 [vR 69, vI a1]) [] σ h
set_option maxRecDepth 100000 in
theorem vm_X4_findDay {Ln : Int} {d : Nat} {Q : Option AV → AS → Prop} (σ : AS) (a1 : Int) (h :
  am_E Ln d 25 12 [vR 69, vI a1, vI 0] [] (am_up (am_up σ 69 2 0) 69 3 0) Q) : am_M Ln (d + 1) 25 [vR 69, vI a1] σ Q :=
  am_vc_E (d := d) (m := 25) (cut := [(12, [true, true, true])]) 8 0 (am_entry 25 [vR 69, vI a1]) [] σ h
set_option maxRecDepth 100000 in
theorem vl_X4_findDay_12 {Ln : Int} {d : Nat} {Q : Option AV → AS → Prop} (σ : AS) (x1 x2 : Int) (h :
  (σ 40 7 ≤ x2 →
    Q none σ) ∧
  (¬ (σ 40 7 ≤ x2) →
    (0 ≤ x2 ∧ x2 < 100) ∧ ((0 ≤ σ 65 x2 ∧ σ 65 x2 < 100) ∧ ((x1 ≤ σ 13 (σ 65 x2) →
      (0 ≤ x2 ∧ x2 < 100) ∧ ((0 ≤ σ 65 x2 ∧ σ 65 x2 < 100) ∧ ((x1 < σ 13 (σ 65 x2) →
        am_E Ln d 25 12 [vR 69, vI x1, vI (w32 (x2 + 1))] [] σ Q) ∧
      (¬ (x1 < σ 13 (σ 65 x2)) →
        am_E Ln d 25 12 [vR 69, vI x1, vI (w32 (x2 + 1))] [] (am_up σ 69 3 (w32 (x2 + 1))) Q)))) ∧
    (¬ (x1 ≤ σ 13 (σ 65 x2)) →
      (0 ≤ x2 ∧ x2 < 100) ∧ ((0 ≤ σ 65 x2 ∧ σ 65 x2 < 100) ∧ ((x1 < σ 13 (σ 65 x2) →
        am_E Ln d 25 12 [vR 69, vI x1, vI (w32 (x2 + 1))] [] (am_up σ 69 2 (w32 (x2 + 1))) Q) ∧
      (¬ (x1 < σ 13 (σ 65 x2)) →
        am_E Ln d 25 12 [vR 69, vI x1, vI (w32 (x2 + 1))] [] (am_up (am_up σ 69 2 (w32 (x2 + 1))) 69 3 (w32 (x2 + 1))) Q)))))))) : am_E Ln d 25 12 [vR 69, vI x1, vI x2] [] σ Q :=
  am_vc_E (d := d) (m := 25) (cut := [(12, [true, true, true])]) 39 12 [vR 69, vI x1, vI x2] [] σ h
set_option maxRecDepth 100000 in
theorem vm_X4_isLawful {Ln : Int} {d : Nat} {Q : Option AV → AS → Prop} (σ : AS) (h :
  am_E Ln d 26 5 [vR 69, vI (σ 69 2), vU] [] σ Q) : am_M Ln (d + 1) 26 [vR 69] σ Q :=
  am_vc_E (d := d) (m := 26) (cut := [(5, [true, true, false]), (17, [true, true, true])]) 3 0 (am_entry 26 [vR 69]) [] σ h
set_option maxRecDepth 100000 in
theorem vl_X4_isLawful_5 {Ln : Int} {d : Nat} {Q : Option AV → AS → Prop} (σ : AS) (x1 : Int) (h :
  (σ 69 3 ≤ x1 →
    am_b 1 ∧ Q (some (vI 1)) σ) ∧
  (¬ (σ 69 3 ≤ x1) →
    am_E Ln d 26 17 [vR 69, vI x1, vI (w32 (x1 + 1))] [] σ Q)) : am_E Ln d 26 5 [vR 69, vI x1, vU] [] σ Q :=
  am_vc_E (d := d) (m := 26) (cut := [(5, [true, true, false]), (17, [true, true, true])]) 8 5 [vR 69, vI x1, vU] [] σ h
set_option maxRecDepth 100000 in
theorem vl_X4_isLawful_17 {Ln : Int} {d : Nat} {Q : Option AV → AS → Prop} (σ : AS) (x1 x2 : Int) (h :
  (σ 69 3 ≤ x2 →
    am_E Ln d 26 5 [vR 69, vI (w32 (x1 + 1)), vU] [] σ Q) ∧
  (¬ (σ 69 3 ≤ x2) →
    (0 ≤ x2 ∧ x2 < 100) ∧ ((0 ≤ σ 65 x2 ∧ σ 65 x2 < 100) ∧ ((0 ≤ x1 ∧ x1 < 100) ∧ ((0 ≤ σ 65 x1 ∧ σ 65 x1 < 100) ∧ ((σ 14 (σ 65 x1) ≤ σ 15 (σ 65 x2) →
      am_E Ln d 26 17 [vR 69, vI x1, vI (w32 (x2 + 1))] [] σ Q) ∧
    (¬ (σ 14 (σ 65 x1) ≤ σ 15 (σ 65 x2)) →
      am_b 0 ∧ Q (some (vI 0)) σ))))))) : am_E Ln d 26 17 [vR 69, vI x1, vI x2] [] σ Q :=
  am_vc_E (d := d) (m := 26) (cut := [(5, [true, true, false]), (17, [true, true, true])]) 25 17 [vR 69, vI x1, vI x2] [] σ h
set_option maxRecDepth 100000 in
theorem vm_X4_sortByNumber {Ln : Int} {d : Nat} {Q : Option AV → AS → Prop} (σ : AS) (h :
  am_E Ln d 27 5 [vR 69, vI (σ 69 2), vU] [] σ Q) : am_M Ln (d + 1) 27 [vR 69] σ Q :=
  am_vc_E (d := d) (m := 27) (cut := [(5, [true, true, false]), (17, [true, true, true])]) 3 0 (am_entry 27 [vR 69]) [] σ h
set_option maxRecDepth 100000 in
theorem vl_X4_sortByNumber_5 {Ln : Int} {d : Nat} {Q : Option AV → AS → Prop} (σ : AS) (x1 : Int) (h :
  (σ 69 3 ≤ x1 →
    Q none σ) ∧
  (¬ (σ 69 3 ≤ x1) →
    am_E Ln d 27 17 [vR 69, vI x1, vI (w32 (x1 + 1))] [] σ Q)) : am_E Ln d 27 5 [vR 69, vI x1, vU] [] σ Q :=
  am_vc_E (d := d) (m := 27) (cut := [(5, [true, true, false]), (17, [true, true, true])]) 8 5 [vR 69, vI x1, vU] [] σ h
set_option maxRecDepth 100000 in
theorem vl_X4_sortByNumber_17 {Ln : Int} {d : Nat} {Q : Option AV → AS → Prop} (σ : AS) (x1 x2 : Int) (h :
  (σ 69 3 ≤ x2 →
    am_E Ln d 27 5 [vR 69, vI (w32 (x1 + 1)), vU] [] σ Q) ∧
  (¬ (σ 69 3 ≤ x2) →
    (0 ≤ x2 ∧ x2 < 100) ∧ ((0 ≤ x1 ∧ x1 < 100) ∧ ((σ 65 x1 ≤ σ 65 x2 →
      am_E Ln d 27 17 [vR 69, vI x1, vI (w32 (x2 + 1))] [] σ Q) ∧
    (¬ (σ 65 x1 ≤ σ 65 x2) →
      ∃ T : Option AV → AS → Prop, am_M Ln d 29 [vR 69, vI x1, vI x2] σ T ∧ ∀ s1, T none s1 →
      am_E Ln d 27 17 [vR 69, vI x1, vI (w32 (x2 + 1))] [] s1 Q))))) : am_E Ln d 27 17 [vR 69, vI x1, vI x2] [] σ Q :=
  am_vc_E (d := d) (m := 27) (cut := [(5, [true, true, false]), (17, [true, true, true])]) 21 17 [vR 69, vI x1, vI x2] [] σ h
set_option maxRecDepth 100000 in
theorem vm_X4_goToNext {Ln : Int} {d : Nat} {Q : Option AV → AS → Prop} (σ : AS) (h :
  am_E Ln d 28 7 [vR 69, vI (w32 (σ 69 3 - 2)), vU, vU, vU] [] σ Q) : am_M Ln (d + 1) 28 [vR 69] σ Q :=
  am_vc_E (d := d) (m := 28) (cut := [(7, [true, true, false, false, false]), (61, [true, true, true, false, false]), (111, [true, false, false, true, true])]) 5 0 (am_entry 28 [vR 69]) [] σ h
set_option maxRecDepth 100000 in
theorem vl_X4_goToNext_7 {Ln : Int} {d : Nat} {Q : Option AV → AS → Prop} (σ : AS) (x1 : Int) (h :
  (x1 < σ 69 2 →
    (σ 69 2 ≤ x1 →
      am_E Ln d 28 61 [vR 69, vI x1, vI (w32 (σ 69 3 - 1)), vU, vU] [] σ Q) ∧
    (¬ (σ 69 2 ≤ x1) →
      am_b 0 ∧ Q (some (vI 0)) σ)) ∧
  (¬ (x1 < σ 69 2) →
    (0 ≤ x1 ∧ x1 < 100) ∧ ((0 ≤ w32 (x1 + 1) ∧ w32 (x1 + 1) < 100) ∧ ((σ 65 x1 ≤ σ 65 (w32 (x1 + 1)) →
      (σ 69 2 ≤ x1 →
        am_E Ln d 28 61 [vR 69, vI x1, vI (w32 (σ 69 3 - 1)), vU, vU] [] σ Q) ∧
      (¬ (σ 69 2 ≤ x1) →
        am_b 0 ∧ Q (some (vI 0)) σ)) ∧
    (¬ (σ 65 x1 ≤ σ 65 (w32 (x1 + 1))) →
      am_E Ln d 28 7 [vR 69, vI (w32 (x1 + (-1))), vU, vU, vU] [] σ Q))))) : am_E Ln d 28 7 [vR 69, vI x1, vU, vU, vU] [] σ Q :=
  am_vc_E (d := d) (m := 28) (cut := [(7, [true, true, false, false, false]), (61, [true, true, true, false, false]), (111, [true, false, false, true, true])]) 26 7 [vR 69, vI x1, vU, vU, vU] [] σ h
set_option maxRecDepth 100000 in
theorem vl_X4_goToNext_61 {Ln : Int} {d : Nat} {Q : Option AV → AS → Prop} (σ : AS) (x1 x2 : Int) (h :
  (x2 ≤ x1 →
    ∃ T : Option AV → AS → Prop, am_M Ln d 29 [vR 69, vI x1, vI x2] σ T ∧ ∀ s1, T none s1 →
    am_E Ln d 28 111 [vR 69, vU, vU, vI (w32 (x1 + 1)), vI (w32 (s1 69 3 - 1))] [] s1 Q) ∧
  (¬ (x2 ≤ x1) →
    (0 ≤ x2 ∧ x2 < 100) ∧ ((0 ≤ x1 ∧ x1 < 100) ∧ ((σ 65 x1 ≤ σ 65 x2 →
      ∃ T : Option AV → AS → Prop, am_M Ln d 29 [vR 69, vI x1, vI x2] σ T ∧ ∀ s2, T none s2 →
      am_E Ln d 28 111 [vR 69, vU, vU, vI (w32 (x1 + 1)), vI (w32 (s2 69 3 - 1))] [] s2 Q) ∧
    (¬ (σ 65 x1 ≤ σ 65 x2) →
      am_E Ln d 28 61 [vR 69, vI x1, vI (w32 (x2 + (-1))), vU, vU] [] σ Q))))) : am_E Ln d 28 61 [vR 69, vI x1, vI x2, vU, vU] [] σ Q :=
  am_vc_E (d := d) (m := 28) (cut := [(7, [true, true, false, false, false]), (61, [true, true, true, false, false]), (111, [true, false, false, true, true])]) 27 61 [vR 69, vI x1, vI x2, vU, vU] [] σ h
set_option maxRecDepth 100000 in
theorem vl_X4_goToNext_111 {Ln : Int} {d : Nat} {Q : Option AV → AS → Prop} (σ : AS) (x3 x4 : Int) (h :
  (x4 ≤ x3 →
    am_b 1 ∧ Q (some (vI 1)) σ) ∧
  (¬ (x4 ≤ x3) →
    ∃ T : Option AV → AS → Prop, am_M Ln d 29 [vR 69, vI x3, vI x4] σ T ∧ ∀ s1, T none s1 →
    am_E Ln d 28 111 [vR 69, vU, vU, vI (w32 (x3 + 1)), vI (w32 (x4 + (-1)))] [] s1 Q)) : am_E Ln d 28 111 [vR 69, vU, vU, vI x3, vI x4] [] σ Q :=
  am_vc_E (d := d) (m := 28) (cut := [(7, [true, true, false, false, false]), (61, [true, true, true, false, false]), (111, [true, false, false, true, true])]) 10 111 [vR 69, vU, vU, vI x3, vI x4] [] σ h
set_option maxRecDepth 100000 in
theorem vm_X4_swap {Ln : Int} {d : Nat} {Q : Option AV → AS → Prop} (σ : AS) (a1 a2 : Int) (h :
  (0 ≤ a1 ∧ a1 < 100) ∧ ((0 ≤ a2 ∧ a2 < 100) ∧ ((0 ≤ a1 ∧ a1 < 100) ∧ ((0 ≤ a2 ∧ a2 < 100) ∧ (Q none (am_up (am_up σ 65 a1 (σ 65 a2)) 65 a2 (σ 65 a1))))))) : am_M Ln (d + 1) 29 [vR 69, vI a1, vI a2] σ Q :=
  am_vc_E (d := d) (m := 29) (cut := []) 23 0 (am_entry 29 [vR 69, vI a1, vI a2]) [] σ h
set_option maxRecDepth 100000 in
theorem vm_X5_add {Ln : Int} {d : Nat} {Q : Option AV → AS → Prop} (σ : AS) (a1 a2 : Int) (h :
  (σ 4 2 < 10 →
    (0 ≤ σ 4 2 ∧ σ 4 2 < 10) ∧ ((0 ≤ σ 4 2 ∧ σ 4 2 < 10) ∧ (Q (some (vI (w32 (w32 (σ 4 2 + 1) - 1)))) (am_up (am_up (am_up σ 5 (σ 4 2) a1) 6 (σ 4 2) a2) 4 2 (w32 (σ 4 2 + 1)))))) ∧
  (¬ (σ 4 2 < 10) →
    Q (some (vI (-1))) σ)) : am_M Ln (d + 1) 30 [vR 4, vI a1, vI a2] σ Q :=
  am_vc_E (d := d) (m := 30) (cut := []) 27 0 (am_entry 30 [vR 4, vI a1, vI a2]) [] σ h
set_option maxRecDepth 100000 in
theorem vm_X6_list {Ln : Int} {d : Nat} {Q : Option AV → AS → Prop} (σ : AS) (a1 a2 : Int) (h :
  ∃ T : Option AV → AS → Prop, am_M Ln d 245 [vR 66, vI (-1)] (am_up (am_up σ 40 7 0) 40 9 a2) T ∧ ∀ s1, T none s1 →
  am_E Ln d 31 20 [vR 40, vI a1, vI a2, vI 0, vU] [] s1 Q) : am_M Ln (d + 1) 31 [vR 40, vI a1, vI a2] σ Q :=
  am_vc_E (d := d) (m := 31) (cut := [(20, [true, true, true, true, false])]) 12 0 (am_entry 31 [vR 40, vI a1, vI a2]) [] σ h
set_option maxRecDepth 100000 in
theorem vl_X6_list_20 {Ln : Int} {d : Nat} {Q : Option AV → AS → Prop} (σ : AS) (x1 x2 x3 : Int) (h :
  (σ 7 11 ≤ x3 →
    Q none σ) ∧
  (¬ (σ 7 11 ≤ x3) →
    (0 ≤ x3 ∧ x3 < 100) ∧ (∃ T : Option AV → AS → Prop, am_M Ln d 21 [vR 7, vI (σ 18 x3), vI x2] σ T ∧ ∀ (r2 : Int) s1, T (some (vI r2)) s1 →
    (r2 = 0 →
      am_E Ln d 31 20 [vR 40, vI x1, vI x2, vI (w32 (x3 + 1)), vU] [] s1 Q) ∧
    (¬ (r2 = 0) →
      (0 ≤ σ 18 x3 ∧ σ 18 x3 < 100) ∧ ((x1 < s1 13 (σ 18 x3) →
        am_E Ln d 31 20 [vR 40, vI x1, vI x2, vI (w32 (x3 + 1)), vU] [] s1 Q) ∧
      (¬ (x1 < s1 13 (σ 18 x3)) →
        (0 ≤ s1 40 7 ∧ s1 40 7 < 100) ∧ (am_E Ln d 31 20 [vR 40, vI x1, vI x2, vI (w32 (x3 + 1)), vU] [] (am_up (am_up s1 65 (s1 40 7) (σ 18 x3)) 40 7 (w32 (s1 40 7 + 1))) Q))))))) : am_E Ln d 31 20 [vR 40, vI x1, vI x2, vI x3, vU] [] σ Q :=
  am_vc_E (d := d) (m := 31) (cut := [(20, [true, true, true, true, false])]) 38 20 [vR 40, vI x1, vI x2, vI x3, vU] [] σ h
set_option maxRecDepth 100000 in
theorem vm_X6_playAll {Ln : Int} {d : Nat} {Q : Option AV → AS → Prop} (σ : AS) (a1 a2 : Int) (h :
  ∃ T : Option AV → AS → Prop, am_M Ln d 31 [vR 40, vI a1, vI a2] σ T ∧ ∀ s1, T none s1 →
  ∃ T : Option AV → AS → Prop, am_M Ln d 73 [vR 41] s1 T ∧ ∀ s2, T none s2 →
  ∃ T : Option AV → AS → Prop, am_M Ln d 36 [vR 40, vI 0, vI (s2 40 7)] s2 T ∧ ∀ s3, T none s3 →
  Q none s3) : am_M Ln (d + 1) 32 [vR 40, vI a1, vI a2] σ Q :=
  am_vc_E (d := d) (m := 32) (cut := []) 13 0 (am_entry 32 [vR 40, vI a1, vI a2]) [] σ h
set_option maxRecDepth 100000 in
theorem vm_X6_playThrough {Ln : Int} {d : Nat} {Q : Option AV → AS → Prop} (σ : AS) (a1 a2 : Int) (h :
  ∃ T : Option AV → AS → Prop, am_M Ln d 21 [vR 7, vI a1, vI a2] σ T ∧ ∀ (r2 : Int) s1, T (some (vI r2)) s1 →
  (r2 = 0 →
    am_b 0 ∧ Q (some (vI 0)) s1) ∧
  (¬ (r2 = 0) →
    ∃ T : Option AV → AS → Prop, am_M Ln d 31 [vR 40, vI 3999, vI a2] s1 T ∧ ∀ s3, T none s3 →
    ∃ T : Option AV → AS → Prop, am_M Ln d 73 [vR 41] s3 T ∧ ∀ s4, T none s4 →
    am_E Ln d 33 34 [vR 40, vI a1, vU, vI 0, vI 0] [] s4 Q)) : am_M Ln (d + 1) 33 [vR 40, vI a1, vI a2] σ Q :=
  am_vc_E (d := d) (m := 33) (cut := [(34, [true, true, false, true, true])]) 17 0 (am_entry 33 [vR 40, vI a1, vI a2]) [] σ h
set_option maxRecDepth 100000 in
theorem vl_X6_playThrough_34 {Ln : Int} {d : Nat} {Q : Option AV → AS → Prop} (σ : AS) (x1 x3 x4 : Int) (h :
  (σ 40 7 ≤ x4 →
    ∃ T : Option AV → AS → Prop, am_M Ln d 36 [vR 40, vI 0, vI x3] σ T ∧ ∀ s1, T none s1 →
    am_b 1 ∧ Q (some (vI 1)) s1) ∧
  (¬ (σ 40 7 ≤ x4) →
    (0 ≤ x4 ∧ x4 < 100) ∧ ((σ 65 x4 = x1 →
      am_E Ln d 33 34 [vR 40, vI x1, vU, vI (w32 (x4 + 1)), vI (w32 (x4 + 1))] [] σ Q) ∧
    (¬ (σ 65 x4 = x1) →
      am_E Ln d 33 34 [vR 40, vI x1, vU, vI x3, vI (w32 (x4 + 1))] [] σ Q)))) : am_E Ln d 33 34 [vR 40, vI x1, vU, vI x3, vI x4] [] σ Q :=
  am_vc_E (d := d) (m := 33) (cut := [(34, [true, true, false, true, true])]) 16 34 [vR 40, vI x1, vU, vI x3, vI x4] [] σ h
set_option maxRecDepth 100000 in
theorem vm_X6_keep {Ln : Int} {d : Nat} {Q : Option AV → AS → Prop} (σ : AS) (h :
  ∃ T : Option AV → AS → Prop, am_M Ln d 74 [vR 53, vR 41] σ T ∧ ∀ s1, T none s1 →
  Q none s1) : am_M Ln (d + 1) 34 [vR 40] σ Q :=
  am_vc_E (d := d) (m := 34) (cut := []) 6 0 (am_entry 34 [vR 40]) [] σ h
set_option maxRecDepth 100000 in
theorem vm_X6_goBack {Ln : Int} {d : Nat} {Q : Option AV → AS → Prop} (σ : AS) (h :
  ∃ T : Option AV → AS → Prop, am_M Ln d 74 [vR 41, vR 53] σ T ∧ ∀ s1, T none s1 →
  Q none s1) : am_M Ln (d + 1) 35 [vR 40] σ Q :=
  am_vc_E (d := d) (m := 35) (cut := []) 6 0 (am_entry 35 [vR 40]) [] σ h
set_option maxRecDepth 100000 in
theorem vm_X6_play {Ln : Int} {d : Nat} {Q : Option AV → AS → Prop} (σ : AS) (a1 a2 : Int) (h :
  am_E Ln d 36 7 [vR 40, vU, vI a2, vI a1] [] (am_up σ 40 14 0) Q) : am_M Ln (d + 1) 36 [vR 40, vI a1, vI a2] σ Q :=
  am_vc_E (d := d) (m := 36) (cut := [(7, [true, false, true, true])]) 5 0 (am_entry 36 [vR 40, vI a1, vI a2]) [] σ h
set_option maxRecDepth 100000 in
theorem vl_X6_play_7 {Ln : Int} {d : Nat} {Q : Option AV → AS → Prop} (σ : AS) (x2 x3 : Int) (h :
  (x2 ≤ x3 →
    Q none σ) ∧
  (¬ (x2 ≤ x3) →
    (σ 40 7 ≤ x3 →
      Q none σ) ∧
    (¬ (σ 40 7 ≤ x3) →
      (0 ≤ x3 ∧ x3 < 100) ∧ (∃ T : Option AV → AS → Prop, am_M Ln d 37 [vR 40, vI (σ 65 x3)] σ T ∧ ∀ s1, T none s1 →
      (0 ≤ x3 ∧ x3 < 100) ∧ (∃ T : Option AV → AS → Prop, am_M Ln d 39 [vR 40, vI (s1 65 x3)] s1 T ∧ ∀ s2, T none s2 →
      (s2 40 13 = 0 →
        am_E Ln d 36 7 [vR 40, vU, vI x2, vI (w32 (x3 + 1))] [] s2 Q) ∧
      (¬ (s2 40 13 = 0) →
        am_E Ln d 36 7 [vR 40, vU, vI x2, vI (w32 (x3 + 1))] [] (am_up s2 40 14 (w32 (s2 40 14 + 1))) Q)))))) : am_E Ln d 36 7 [vR 40, vU, vI x2, vI x3] [] σ Q :=
  am_vc_E (d := d) (m := 36) (cut := [(7, [true, false, true, true])]) 30 7 [vR 40, vU, vI x2, vI x3] [] σ h
set_option maxRecDepth 100000 in
theorem vm_X6_decide {Ln : Int} {d : Nat} {Q : Option AV → AS → Prop} (σ : AS) (a1 : Int) (h :
  am_b 0 ∧ (am_b 0 ∧ ((0 ≤ a1 ∧ a1 < 100) ∧ ((0 ≤ a1 ∧ a1 < 100) ∧ ((0 ≤ a1 ∧ a1 < 100) ∧ ((σ 8 a1 = 4 →
    ∃ T : Option AV → AS → Prop, am_M Ln d 38 [vR 40, vI a1] (am_up (am_up (am_up σ 40 10 (-1)) 40 11 0) 40 12 0) T ∧ ∀ s1, T none s1 →
    (0 ≤ σ 9 a1 ∧ σ 9 a1 < 10) ∧ (∃ T : Option AV → AS → Prop, am_M Ln d 49 [vR 24, vI 114, vI (s1 6 (σ 9 a1)), vI (σ 13 a1), vI (s1 40 9)] s1 T ∧ ∀ (r3 : Int) s2, T (some (vI r3)) s2 →
    (r3 = (-1) →
      am_b 0 ∧ (Q none (am_up s2 40 11 0))) ∧
    (¬ (r3 = (-1)) →
      am_b 1 ∧ (Q none (am_up s2 40 11 1))))) ∧
  (¬ (σ 8 a1 = 4) →
    ∃ T : Option AV → AS → Prop, am_M Ln d 22 [vR 7, vI a1] (am_up (am_up (am_up σ 40 10 (-1)) 40 11 0) 40 12 0) T ∧ ∀ (r5 : Int) s4, T (some (vI r5)) s4 →
    (r5 = 0 →
      Q none s4) ∧
    (¬ (r5 = 0) →
      ∃ T : Option AV → AS → Prop, am_M Ln d 38 [vR 40, vI a1] s4 T ∧ ∀ s6, T none s6 →
      (0 ≤ σ 9 a1 ∧ σ 9 a1 < 10) ∧ ((s6 66 (σ 9 a1) = (-1) →
        (0 ≤ σ 9 a1 ∧ σ 9 a1 < 10) ∧ (∃ T : Option AV → AS → Prop, am_M Ln d 49 [vR 24, vI 119, vI (s6 6 (σ 9 a1)), vI (σ 13 a1), vI (s6 40 9)] (am_up s6 40 10 (s6 66 (σ 9 a1))) T ∧ ∀ (r8 : Int) s7, T (some (vI r8)) s7 →
        (r8 = (-1) →
          (0 ≤ a1 ∧ a1 < 100) ∧ ((s7 8 a1 = 1 →
            (0 ≤ a1 ∧ a1 < 100) ∧ ((s7 12 a1 = 0 →
              Q none (am_up s7 40 10 0)) ∧
            (¬ (s7 12 a1 = 0) →
              (0 ≤ a1 ∧ a1 < 100) ∧ ((0 ≤ s7 10 a1 ∧ s7 10 a1 < 10) ∧ (∃ T : Option AV → AS → Prop, am_M Ln d 49 [vR 24, vI 103, vI (s7 6 (s7 10 a1)), vI (σ 13 a1), vI (s7 40 9)] (am_up s7 40 10 0) T ∧ ∀ (r10 : Int) s9, T (some (vI r10)) s9 →
              (r10 = (-1) →
                am_b 0 ∧ (Q none (am_up s9 40 12 0))) ∧
              (¬ (r10 = (-1)) →
                am_b 1 ∧ (Q none (am_up s9 40 12 1)))))))) ∧
          (¬ (s7 8 a1 = 1) →
            Q none (am_up s7 40 10 0)))) ∧
        (¬ (r8 = (-1)) →
          (0 ≤ r8 ∧ r8 < 240) ∧ ((0 ≤ a1 ∧ a1 < 100) ∧ ((s7 8 a1 = 1 →
            (0 ≤ a1 ∧ a1 < 100) ∧ ((s7 12 a1 = 0 →
              Q none (am_up s7 40 10 (s7 31 r8))) ∧
            (¬ (s7 12 a1 = 0) →
              (0 ≤ a1 ∧ a1 < 100) ∧ ((0 ≤ s7 10 a1 ∧ s7 10 a1 < 10) ∧ (∃ T : Option AV → AS → Prop, am_M Ln d 49 [vR 24, vI 103, vI (s7 6 (s7 10 a1)), vI (σ 13 a1), vI (s7 40 9)] (am_up s7 40 10 (s7 31 r8)) T ∧ ∀ (r12 : Int) s11, T (some (vI r12)) s11 →
              (r12 = (-1) →
                am_b 0 ∧ (Q none (am_up s11 40 12 0))) ∧
              (¬ (r12 = (-1)) →
                am_b 1 ∧ (Q none (am_up s11 40 12 1)))))))) ∧
          (¬ (s7 8 a1 = 1) →
            Q none (am_up s7 40 10 (s7 31 r8)))))))) ∧
      (¬ (s6 66 (σ 9 a1) = (-1)) →
        (0 ≤ a1 ∧ a1 < 100) ∧ ((s6 8 a1 = 1 →
          (0 ≤ a1 ∧ a1 < 100) ∧ ((s6 12 a1 = 0 →
            Q none (am_up s6 40 10 (s6 66 (σ 9 a1)))) ∧
          (¬ (s6 12 a1 = 0) →
            (0 ≤ a1 ∧ a1 < 100) ∧ ((0 ≤ s6 10 a1 ∧ s6 10 a1 < 10) ∧ (∃ T : Option AV → AS → Prop, am_M Ln d 49 [vR 24, vI 103, vI (s6 6 (s6 10 a1)), vI (σ 13 a1), vI (s6 40 9)] (am_up s6 40 10 (s6 66 (σ 9 a1))) T ∧ ∀ (r14 : Int) s13, T (some (vI r14)) s13 →
            (r14 = (-1) →
              am_b 0 ∧ (Q none (am_up s13 40 12 0))) ∧
            (¬ (r14 = (-1)) →
              am_b 1 ∧ (Q none (am_up s13 40 12 1)))))))) ∧
        (¬ (s6 8 a1 = 1) →
          Q none (am_up s6 40 10 (s6 66 (σ 9 a1))))))))))))))) : am_M Ln (d + 1) 37 [vR 40, vI a1] σ Q :=
  am_vc_E (d := d) (m := 37) (cut := []) 107 0 (am_entry 37 [vR 40, vI a1]) [] σ h
set_option maxRecDepth 100000 in
theorem vm_X6_gatherFacts {Ln : Int} {d : Nat} {Q : Option AV → AS → Prop} (σ : AS) (a1 : Int) (h :
  (0 ≤ a1 ∧ a1 < 100) ∧ ((0 ≤ σ 9 a1 ∧ σ 9 a1 < 10) ∧ ((0 ≤ a1 ∧ a1 < 100) ∧ ((0 ≤ (0 : Int) ∧ (0 : Int) < 8) ∧ ((0 ≤ a1 ∧ a1 < 100) ∧ ((0 ≤ (1 : Int) ∧ (1 : Int) < 8) ∧ ((0 ≤ a1 ∧ a1 < 100) ∧ ((0 ≤ (2 : Int) ∧ (2 : Int) < 8) ∧ ((0 ≤ (3 : Int) ∧ (3 : Int) < 8) ∧ ((0 ≤ (4 : Int) ∧ (4 : Int) < 8) ∧ (∃ T : Option AV → AS → Prop, am_M Ln d 84 [vR 41, vI (σ 9 a1)] (am_up (am_up (am_up (am_up (am_up σ 38 0 (σ 11 a1)) 38 1 (σ 13 a1)) 38 2 (σ 8 a1)) 38 3 (σ 9 a1)) 38 4 (σ 5 (σ 9 a1))) T ∧ ∀ (r2 : Int) s1, T (some (vI r2)) s1 →
  (0 ≤ (5 : Int) ∧ (5 : Int) < 8) ∧ ((0 ≤ σ 5 (σ 9 a1) ∧ σ 5 (σ 9 a1) < 10) ∧ ((0 ≤ (6 : Int) ∧ (6 : Int) < 8) ∧ (am_E Ln d 38 143 [vR 40, vU, vU, vU, vI 0, vI 0] [] (am_up (am_up s1 38 5 r2) 38 6 (s1 51 (σ 5 (σ 9 a1)))) Q)))))))))))))) : am_M Ln (d + 1) 38 [vR 40, vI a1] σ Q :=
  am_vc_E (d := d) (m := 38) (cut := [(143, [true, false, false, false, true, true])]) 84 0 (am_entry 38 [vR 40, vI a1]) [] σ h
set_option maxRecDepth 100000 in
theorem vl_X6_gatherFacts_143 {Ln : Int} {d : Nat} {Q : Option AV → AS → Prop} (σ : AS) (x4 x5 : Int) (h :
  (10 ≤ x5 →
    (0 ≤ (7 : Int) ∧ (7 : Int) < 8) ∧ (Q none (am_up σ 38 7 x4))) ∧
  (¬ (10 ≤ x5) →
    (0 ≤ x5 ∧ x5 < 10) ∧ ((σ 51 x5 ≤ 0 →
      am_E Ln d 38 143 [vR 40, vU, vU, vU, vI x4, vI (w32 (x5 + 1))] [] σ Q) ∧
    (¬ (σ 51 x5 ≤ 0) →
      am_E Ln d 38 143 [vR 40, vU, vU, vU, vI (w32 (x4 + 1)), vI (w32 (x5 + 1))] [] σ Q)))) : am_E Ln d 38 143 [vR 40, vU, vU, vU, vI x4, vI x5] [] σ Q :=
  am_vc_E (d := d) (m := 38) (cut := [(143, [true, false, false, false, true, true])]) 12 143 [vR 40, vU, vU, vU, vI x4, vI x5] [] σ h
set_option maxRecDepth 100000 in
theorem vm_X6_act {Ln : Int} {d : Nat} {Q : Option AV → AS → Prop} (σ : AS) (a1 : Int) (h :
  (0 ≤ a1 ∧ a1 < 100) ∧ ((0 ≤ a1 ∧ a1 < 100) ∧ (∃ T : Option AV → AS → Prop, am_M Ln d 75 [vR 41] σ T ∧ ∀ s1, T none s1 →
  ∃ T : Option AV → AS → Prop, am_M Ln d 22 [vR 7, vI a1] s1 T ∧ ∀ (r3 : Int) s2, T (some (vI r3)) s2 →
  (r3 = 0 →
    am_b 0 ∧ (((0 : Int) = 0 →
      ∃ T : Option AV → AS → Prop, am_M Ln d 22 [vR 7, vI a1] (am_up s2 40 13 0) T ∧ ∀ (r5 : Int) s4, T (some (vI r5)) s4 →
      (r5 = 0 →
        (0 ≤ a1 ∧ a1 < 100) ∧ ((s4 8 a1 = 0 →
          (0 ≤ a1 ∧ a1 < 100) ∧ (∃ T : Option AV → AS → Prop, am_M Ln d 77 [vR 41, vI (σ 9 a1), vI (s4 10 a1), vI (σ 11 a1)] s4 T ∧ ∀ s6, T none s6 →
          Q none s6)) ∧
        (s4 8 a1 = 0 + 1 →
          ∃ T : Option AV → AS → Prop, am_M Ln d 40 [vR 40, vI a1] s4 T ∧ ∀ s7, T none s7 →
          Q none s7) ∧
        (s4 8 a1 = 0 + 1 + 1 →
          ∃ T : Option AV → AS → Prop, am_M Ln d 41 [vR 40, vI (σ 9 a1)] s4 T ∧ ∀ s8, T none s8 →
          Q none s8) ∧
        (s4 8 a1 = 0 + 1 + 1 + 1 →
          (0 ≤ a1 ∧ a1 < 100) ∧ (∃ T : Option AV → AS → Prop, am_M Ln d 42 [vR 40, vI (s4 10 a1)] s4 T ∧ ∀ s9, T none s9 →
          Q none s9)) ∧
        (s4 8 a1 = 0 + 1 + 1 + 1 + 1 →
          (0 ≤ a1 ∧ a1 < 100) ∧ (∃ T : Option AV → AS → Prop, am_M Ln d 43 [vR 40, vI (σ 9 a1), vI (s4 10 a1), vI (σ 11 a1)] s4 T ∧ ∀ s10, T none s10 →
          Q none s10)) ∧
        (s4 8 a1 < 0 ∨ 4 < s4 8 a1 →
          (0 ≤ a1 ∧ a1 < 100) ∧ (∃ T : Option AV → AS → Prop, am_M Ln d 44 [vR 40, vI (σ 9 a1), vI (s4 10 a1), vI (σ 11 a1)] s4 T ∧ ∀ s11, T none s11 →
          Q none s11)) ∧ True)) ∧
      (¬ (r5 = 0) →
        (0 ≤ σ 9 a1 ∧ σ 9 a1 < 10) ∧ (∃ T : Option AV → AS → Prop, am_M Ln d 78 [vR 41, vI (σ 9 a1), vI (σ 11 a1), vI (s4 40 10), vI (s4 5 (σ 9 a1))] s4 T ∧ ∀ s12, T none s12 →
        (0 ≤ a1 ∧ a1 < 100) ∧ ((s12 8 a1 = 0 →
          (0 ≤ a1 ∧ a1 < 100) ∧ (∃ T : Option AV → AS → Prop, am_M Ln d 77 [vR 41, vI (σ 9 a1), vI (s12 10 a1), vI (σ 11 a1)] s12 T ∧ ∀ s13, T none s13 →
          Q none s13)) ∧
        (s12 8 a1 = 0 + 1 →
          ∃ T : Option AV → AS → Prop, am_M Ln d 40 [vR 40, vI a1] s12 T ∧ ∀ s14, T none s14 →
          Q none s14) ∧
        (s12 8 a1 = 0 + 1 + 1 →
          ∃ T : Option AV → AS → Prop, am_M Ln d 41 [vR 40, vI (σ 9 a1)] s12 T ∧ ∀ s15, T none s15 →
          Q none s15) ∧
        (s12 8 a1 = 0 + 1 + 1 + 1 →
          (0 ≤ a1 ∧ a1 < 100) ∧ (∃ T : Option AV → AS → Prop, am_M Ln d 42 [vR 40, vI (s12 10 a1)] s12 T ∧ ∀ s16, T none s16 →
          Q none s16)) ∧
        (s12 8 a1 = 0 + 1 + 1 + 1 + 1 →
          (0 ≤ a1 ∧ a1 < 100) ∧ (∃ T : Option AV → AS → Prop, am_M Ln d 43 [vR 40, vI (σ 9 a1), vI (s12 10 a1), vI (σ 11 a1)] s12 T ∧ ∀ s17, T none s17 →
          Q none s17)) ∧
        (s12 8 a1 < 0 ∨ 4 < s12 8 a1 →
          (0 ≤ a1 ∧ a1 < 100) ∧ (∃ T : Option AV → AS → Prop, am_M Ln d 44 [vR 40, vI (σ 9 a1), vI (s12 10 a1), vI (σ 11 a1)] s12 T ∧ ∀ s18, T none s18 →
          Q none s18)) ∧ True)))) ∧
    (¬ ((0 : Int) = 0) →
      Q none (am_up s2 40 13 0)))) ∧
  (¬ (r3 = 0) →
    ∃ T : Option AV → AS → Prop, am_M Ln d 84 [vR 41, vI (σ 9 a1)] s2 T ∧ ∀ (r20 : Int) s19, T (some (vI r20)) s19 →
    (σ 11 a1 ≤ r20 →
      am_b 0 ∧ (((0 : Int) = 0 →
        ∃ T : Option AV → AS → Prop, am_M Ln d 22 [vR 7, vI a1] (am_up s19 40 13 0) T ∧ ∀ (r22 : Int) s21, T (some (vI r22)) s21 →
        (r22 = 0 →
          (0 ≤ a1 ∧ a1 < 100) ∧ ((s21 8 a1 = 0 →
            (0 ≤ a1 ∧ a1 < 100) ∧ (∃ T : Option AV → AS → Prop, am_M Ln d 77 [vR 41, vI (σ 9 a1), vI (s21 10 a1), vI (σ 11 a1)] s21 T ∧ ∀ s23, T none s23 →
            Q none s23)) ∧
          (s21 8 a1 = 0 + 1 →
            ∃ T : Option AV → AS → Prop, am_M Ln d 40 [vR 40, vI a1] s21 T ∧ ∀ s24, T none s24 →
            Q none s24) ∧
          (s21 8 a1 = 0 + 1 + 1 →
            ∃ T : Option AV → AS → Prop, am_M Ln d 41 [vR 40, vI (σ 9 a1)] s21 T ∧ ∀ s25, T none s25 →
            Q none s25) ∧
          (s21 8 a1 = 0 + 1 + 1 + 1 →
            (0 ≤ a1 ∧ a1 < 100) ∧ (∃ T : Option AV → AS → Prop, am_M Ln d 42 [vR 40, vI (s21 10 a1)] s21 T ∧ ∀ s26, T none s26 →
            Q none s26)) ∧
          (s21 8 a1 = 0 + 1 + 1 + 1 + 1 →
            (0 ≤ a1 ∧ a1 < 100) ∧ (∃ T : Option AV → AS → Prop, am_M Ln d 43 [vR 40, vI (σ 9 a1), vI (s21 10 a1), vI (σ 11 a1)] s21 T ∧ ∀ s27, T none s27 →
            Q none s27)) ∧
          (s21 8 a1 < 0 ∨ 4 < s21 8 a1 →
            (0 ≤ a1 ∧ a1 < 100) ∧ (∃ T : Option AV → AS → Prop, am_M Ln d 44 [vR 40, vI (σ 9 a1), vI (s21 10 a1), vI (σ 11 a1)] s21 T ∧ ∀ s28, T none s28 →
            Q none s28)) ∧ True)) ∧
        (¬ (r22 = 0) →
          (0 ≤ σ 9 a1 ∧ σ 9 a1 < 10) ∧ (∃ T : Option AV → AS → Prop, am_M Ln d 78 [vR 41, vI (σ 9 a1), vI (σ 11 a1), vI (s21 40 10), vI (s21 5 (σ 9 a1))] s21 T ∧ ∀ s29, T none s29 →
          (0 ≤ a1 ∧ a1 < 100) ∧ ((s29 8 a1 = 0 →
            (0 ≤ a1 ∧ a1 < 100) ∧ (∃ T : Option AV → AS → Prop, am_M Ln d 77 [vR 41, vI (σ 9 a1), vI (s29 10 a1), vI (σ 11 a1)] s29 T ∧ ∀ s30, T none s30 →
            Q none s30)) ∧
          (s29 8 a1 = 0 + 1 →
            ∃ T : Option AV → AS → Prop, am_M Ln d 40 [vR 40, vI a1] s29 T ∧ ∀ s31, T none s31 →
            Q none s31) ∧
          (s29 8 a1 = 0 + 1 + 1 →
            ∃ T : Option AV → AS → Prop, am_M Ln d 41 [vR 40, vI (σ 9 a1)] s29 T ∧ ∀ s32, T none s32 →
            Q none s32) ∧
          (s29 8 a1 = 0 + 1 + 1 + 1 →
            (0 ≤ a1 ∧ a1 < 100) ∧ (∃ T : Option AV → AS → Prop, am_M Ln d 42 [vR 40, vI (s29 10 a1)] s29 T ∧ ∀ s33, T none s33 →
            Q none s33)) ∧
          (s29 8 a1 = 0 + 1 + 1 + 1 + 1 →
            (0 ≤ a1 ∧ a1 < 100) ∧ (∃ T : Option AV → AS → Prop, am_M Ln d 43 [vR 40, vI (σ 9 a1), vI (s29 10 a1), vI (σ 11 a1)] s29 T ∧ ∀ s34, T none s34 →
            Q none s34)) ∧
          (s29 8 a1 < 0 ∨ 4 < s29 8 a1 →
            (0 ≤ a1 ∧ a1 < 100) ∧ (∃ T : Option AV → AS → Prop, am_M Ln d 44 [vR 40, vI (σ 9 a1), vI (s29 10 a1), vI (σ 11 a1)] s29 T ∧ ∀ s35, T none s35 →
            Q none s35)) ∧ True)))) ∧
      (¬ ((0 : Int) = 0) →
        Q none (am_up s19 40 13 0)))) ∧
    (¬ (σ 11 a1 ≤ r20) →
      am_b 1 ∧ (((1 : Int) = 0 →
        ∃ T : Option AV → AS → Prop, am_M Ln d 22 [vR 7, vI a1] (am_up s19 40 13 1) T ∧ ∀ (r37 : Int) s36, T (some (vI r37)) s36 →
        (r37 = 0 →
          (0 ≤ a1 ∧ a1 < 100) ∧ ((s36 8 a1 = 0 →
            (0 ≤ a1 ∧ a1 < 100) ∧ (∃ T : Option AV → AS → Prop, am_M Ln d 77 [vR 41, vI (σ 9 a1), vI (s36 10 a1), vI (σ 11 a1)] s36 T ∧ ∀ s38, T none s38 →
            Q none s38)) ∧
          (s36 8 a1 = 0 + 1 →
            ∃ T : Option AV → AS → Prop, am_M Ln d 40 [vR 40, vI a1] s36 T ∧ ∀ s39, T none s39 →
            Q none s39) ∧
          (s36 8 a1 = 0 + 1 + 1 →
            ∃ T : Option AV → AS → Prop, am_M Ln d 41 [vR 40, vI (σ 9 a1)] s36 T ∧ ∀ s40, T none s40 →
            Q none s40) ∧
          (s36 8 a1 = 0 + 1 + 1 + 1 →
            (0 ≤ a1 ∧ a1 < 100) ∧ (∃ T : Option AV → AS → Prop, am_M Ln d 42 [vR 40, vI (s36 10 a1)] s36 T ∧ ∀ s41, T none s41 →
            Q none s41)) ∧
          (s36 8 a1 = 0 + 1 + 1 + 1 + 1 →
            (0 ≤ a1 ∧ a1 < 100) ∧ (∃ T : Option AV → AS → Prop, am_M Ln d 43 [vR 40, vI (σ 9 a1), vI (s36 10 a1), vI (σ 11 a1)] s36 T ∧ ∀ s42, T none s42 →
            Q none s42)) ∧
          (s36 8 a1 < 0 ∨ 4 < s36 8 a1 →
            (0 ≤ a1 ∧ a1 < 100) ∧ (∃ T : Option AV → AS → Prop, am_M Ln d 44 [vR 40, vI (σ 9 a1), vI (s36 10 a1), vI (σ 11 a1)] s36 T ∧ ∀ s43, T none s43 →
            Q none s43)) ∧ True)) ∧
        (¬ (r37 = 0) →
          (0 ≤ σ 9 a1 ∧ σ 9 a1 < 10) ∧ (∃ T : Option AV → AS → Prop, am_M Ln d 78 [vR 41, vI (σ 9 a1), vI (σ 11 a1), vI (s36 40 10), vI (s36 5 (σ 9 a1))] s36 T ∧ ∀ s44, T none s44 →
          (0 ≤ a1 ∧ a1 < 100) ∧ ((s44 8 a1 = 0 →
            (0 ≤ a1 ∧ a1 < 100) ∧ (∃ T : Option AV → AS → Prop, am_M Ln d 77 [vR 41, vI (σ 9 a1), vI (s44 10 a1), vI (σ 11 a1)] s44 T ∧ ∀ s45, T none s45 →
            Q none s45)) ∧
          (s44 8 a1 = 0 + 1 →
            ∃ T : Option AV → AS → Prop, am_M Ln d 40 [vR 40, vI a1] s44 T ∧ ∀ s46, T none s46 →
            Q none s46) ∧
          (s44 8 a1 = 0 + 1 + 1 →
            ∃ T : Option AV → AS → Prop, am_M Ln d 41 [vR 40, vI (σ 9 a1)] s44 T ∧ ∀ s47, T none s47 →
            Q none s47) ∧
          (s44 8 a1 = 0 + 1 + 1 + 1 →
            (0 ≤ a1 ∧ a1 < 100) ∧ (∃ T : Option AV → AS → Prop, am_M Ln d 42 [vR 40, vI (s44 10 a1)] s44 T ∧ ∀ s48, T none s48 →
            Q none s48)) ∧
          (s44 8 a1 = 0 + 1 + 1 + 1 + 1 →
            (0 ≤ a1 ∧ a1 < 100) ∧ (∃ T : Option AV → AS → Prop, am_M Ln d 43 [vR 40, vI (σ 9 a1), vI (s44 10 a1), vI (σ 11 a1)] s44 T ∧ ∀ s49, T none s49 →
            Q none s49)) ∧
          (s44 8 a1 < 0 ∨ 4 < s44 8 a1 →
            (0 ≤ a1 ∧ a1 < 100) ∧ (∃ T : Option AV → AS → Prop, am_M Ln d 44 [vR 40, vI (σ 9 a1), vI (s44 10 a1), vI (σ 11 a1)] s44 T ∧ ∀ s50, T none s50 →
            Q none s50)) ∧ True)))) ∧
      (¬ ((1 : Int) = 0) →
        Q none (am_up s19 40 13 1)))))))) : am_M Ln (d + 1) 39 [vR 40, vI a1] σ Q :=
  am_vc_E (d := d) (m := 39) (cut := []) 68 0 (am_entry 39 [vR 40, vI a1]) [] σ h
set_option maxRecDepth 100000 in
theorem vm_X6_moveOn {Ln : Int} {d : Nat} {Q : Option AV → AS → Prop} (σ : AS) (a1 : Int) (h :
  (0 ≤ a1 ∧ a1 < 100) ∧ ((0 ≤ σ 10 a1 ∧ σ 10 a1 < 10) ∧ (am_E Ln d 40 23 [vR 40, vI a1, vI (σ 10 a1), vI (σ 5 (σ 10 a1)), vI 0, vU, vU] [] σ Q))) : am_M Ln (d + 1) 40 [vR 40, vI a1] σ Q :=
  am_vc_E (d := d) (m := 40) (cut := [(23, [true, true, true, true, true, false, false])]) 14 0 (am_entry 40 [vR 40, vI a1]) [] σ h
set_option maxRecDepth 100000 in
theorem vl_X6_moveOn_23 {Ln : Int} {d : Nat} {Q : Option AV → AS → Prop} (σ : AS) (x1 x2 x3 x4 : Int) (h :
  (σ 41 9 ≤ x4 →
    Q none σ) ∧
  (¬ (σ 41 9 ≤ x4) →
    (0 ≤ x4 ∧ x4 < 1010) ∧ ((σ 40 12 = 0 →
      ((0 : Int) = 0 →
        (0 ≤ x4 ∧ x4 < 1010) ∧ (∃ T : Option AV → AS → Prop, am_M Ln d 76 [vR 41, vI x2, vI (σ 48 x4), vI (σ 49 x4)] σ T ∧ ∀ s1, T none s1 →
        am_E Ln d 40 23 [vR 40, vI x1, vI x2, vI x3, vI (w32 (x4 + 1)), vU, vU] [] s1 Q)) ∧
      (¬ ((0 : Int) = 0) →
        (0 ≤ x4 ∧ x4 < 1010) ∧ (∃ T : Option AV → AS → Prop, am_M Ln d 76 [vR 41, vI x2, vI x3, vI (σ 49 x4)] σ T ∧ ∀ s2, T none s2 →
        am_E Ln d 40 23 [vR 40, vI x1, vI x2, vI x3, vI (w32 (x4 + 1)), vU, vU] [] s2 Q))) ∧
    (¬ (σ 40 12 = 0) →
      (0 ≤ x1 ∧ x1 < 100) ∧ (∃ T : Option AV → AS → Prop, am_M Ln d 16 [vR 19, vI x3, vI (σ 48 x4), vI (σ 13 x1), vI (σ 40 9)] σ T ∧ ∀ (r4 : Int) s3, T (some (vI r4)) s3 →
      (r4 = 0 →
        ((1 : Int) = 0 →
          (0 ≤ x4 ∧ x4 < 1010) ∧ (∃ T : Option AV → AS → Prop, am_M Ln d 76 [vR 41, vI x2, vI (σ 48 x4), vI (s3 49 x4)] s3 T ∧ ∀ s5, T none s5 →
          am_E Ln d 40 23 [vR 40, vI x1, vI x2, vI x3, vI (w32 (x4 + 1)), vU, vU] [] s5 Q)) ∧
        (¬ ((1 : Int) = 0) →
          (0 ≤ x4 ∧ x4 < 1010) ∧ (∃ T : Option AV → AS → Prop, am_M Ln d 76 [vR 41, vI x2, vI x3, vI (s3 49 x4)] s3 T ∧ ∀ s6, T none s6 →
          am_E Ln d 40 23 [vR 40, vI x1, vI x2, vI x3, vI (w32 (x4 + 1)), vU, vU] [] s6 Q))) ∧
      (¬ (r4 = 0) →
        ((0 : Int) = 0 →
          (0 ≤ x4 ∧ x4 < 1010) ∧ (∃ T : Option AV → AS → Prop, am_M Ln d 76 [vR 41, vI x2, vI (σ 48 x4), vI (s3 49 x4)] s3 T ∧ ∀ s7, T none s7 →
          am_E Ln d 40 23 [vR 40, vI x1, vI x2, vI x3, vI (w32 (x4 + 1)), vU, vU] [] s7 Q)) ∧
        (¬ ((0 : Int) = 0) →
          (0 ≤ x4 ∧ x4 < 1010) ∧ (∃ T : Option AV → AS → Prop, am_M Ln d 76 [vR 41, vI x2, vI x3, vI (s3 49 x4)] s3 T ∧ ∀ s8, T none s8 →
          am_E Ln d 40 23 [vR 40, vI x1, vI x2, vI x3, vI (w32 (x4 + 1)), vU, vU] [] s8 Q)))))))) : am_E Ln d 40 23 [vR 40, vI x1, vI x2, vI x3, vI x4, vU, vU] [] σ Q :=
  am_vc_E (d := d) (m := 40) (cut := [(23, [true, true, true, true, true, false, false])]) 45 23 [vR 40, vI x1, vI x2, vI x3, vI x4, vU, vU] [] σ h
set_option maxRecDepth 100000 in
theorem vm_X6_spend {Ln : Int} {d : Nat} {Q : Option AV → AS → Prop} (σ : AS) (a1 : Int) (h :
  am_E Ln d 41 2 [vR 40, vI a1, vI 0] [] σ Q) : am_M Ln (d + 1) 41 [vR 40, vI a1] σ Q :=
  am_vc_E (d := d) (m := 41) (cut := [(2, [true, true, true])]) 2 0 (am_entry 41 [vR 40, vI a1]) [] σ h
set_option maxRecDepth 100000 in
theorem vl_X6_spend_2 {Ln : Int} {d : Nat} {Q : Option AV → AS → Prop} (σ : AS) (x1 x2 : Int) (h :
  (10 ≤ x2 →
    Q none σ) ∧
  (¬ (10 ≤ x2) →
    (0 ≤ x1 ∧ x1 < 10) ∧ ((x2 = σ 5 x1 →
      am_E Ln d 41 2 [vR 40, vI x1, vI (w32 (x2 + 1))] [] σ Q) ∧
    (¬ (x2 = σ 5 x1) →
      (0 ≤ w32 (w32 (x1 * 10) + x2) ∧ w32 (w32 (x1 * 10) + x2) < 100) ∧ ((0 ≤ x2 ∧ x2 < 10) ∧ ((0 ≤ w32 (w32 (x1 * 10) + x2) ∧ w32 (w32 (x1 * 10) + x2) < 100) ∧ (am_E Ln d 41 2 [vR 40, vI x1, vI (w32 (x2 + 1))] [] (am_up σ 47 (w32 (w32 (x1 * 10) + x2)) (w32 (σ 47 (w32 (w32 (x1 * 10) + x2)) + (σ 50 x2)))) Q))))))) : am_E Ln d 41 2 [vR 40, vI x1, vI x2] [] σ Q :=
  am_vc_E (d := d) (m := 41) (cut := [(2, [true, true, true])]) 29 2 [vR 40, vI x1, vI x2] [] σ h
set_option maxRecDepth 100000 in
theorem vm_X6_buy {Ln : Int} {d : Nat} {Q : Option AV → AS → Prop} (σ : AS) (a1 : Int) (h :
  am_E Ln d 42 2 [vR 40, vI a1, vI 0] [] σ Q) : am_M Ln (d + 1) 42 [vR 40, vI a1] σ Q :=
  am_vc_E (d := d) (m := 42) (cut := [(2, [true, true, true])]) 2 0 (am_entry 42 [vR 40, vI a1]) [] σ h
set_option maxRecDepth 100000 in
theorem vl_X6_buy_2 {Ln : Int} {d : Nat} {Q : Option AV → AS → Prop} (σ : AS) (x1 x2 : Int) (h :
  (10 ≤ x2 →
    Q none σ) ∧
  (¬ (10 ≤ x2) →
    (0 ≤ w32 (w32 (x1 * 10) + x2) ∧ w32 (w32 (x1 * 10) + x2) < 100) ∧ ((0 ≤ x2 ∧ x2 < 10) ∧ ((0 ≤ w32 (w32 (x1 * 10) + x2) ∧ w32 (w32 (x1 * 10) + x2) < 100) ∧ (am_E Ln d 42 2 [vR 40, vI x1, vI (w32 (x2 + 1))] [] (am_up σ 46 (w32 (w32 (x1 * 10) + x2)) (w32 (σ 46 (w32 (w32 (x1 * 10) + x2)) + (σ 50 x2)))) Q))))) : am_E Ln d 42 2 [vR 40, vI x1, vI x2] [] σ Q :=
  am_vc_E (d := d) (m := 42) (cut := [(2, [true, true, true])]) 22 2 [vR 40, vI x1, vI x2] [] σ h
set_option maxRecDepth 100000 in
theorem vm_X6_sell {Ln : Int} {d : Nat} {Q : Option AV → AS → Prop} (σ : AS) (a1 a2 a3 : Int) (h :
  (0 ≤ a1 ∧ a1 < 10) ∧ (∃ T : Option AV → AS → Prop, am_M Ln d 86 [vR 41, vI a2, vI (-1)] σ T ∧ ∀ (r2 : Int) s1, T (some (vI r2)) s1 →
  am_E Ln d 43 25 [vR 40, vI a1, vI a2, vI a3, vI (σ 5 a1), vI r2, vI 0, vU] [] s1 Q)) : am_M Ln (d + 1) 43 [vR 40, vI a1, vI a2, vI a3] σ Q :=
  am_vc_E (d := d) (m := 43) (cut := [(25, [true, true, true, true, true, true, true, false]), (158, [true, true, false, false, false, false, false, true])]) 14 0 (am_entry 43 [vR 40, vI a1, vI a2, vI a3]) [] σ h
set_option maxRecDepth 100000 in
theorem vl_X6_sell_25 {Ln : Int} {d : Nat} {Q : Option AV → AS → Prop} (σ : AS) (x1 x2 x3 x4 x5 x6 : Int) (h :
  (10 ≤ x6 →
    (0 ≤ x4 ∧ x4 < 10) ∧ ((σ 40 11 = 0 →
      (0 ≤ x4 ∧ x4 < 10) ∧ (∃ T : Option AV → AS → Prop, am_M Ln d 133 [vI (min x3 (w32 (x5 - (σ 67 x4)))), vR 67, vR 68] (am_up σ 67 x4 0) T ∧ ∀ s1, T none s1 →
      (0 ≤ x4 ∧ x4 < 10) ∧ (am_E Ln d 43 158 [vR 40, vI x1, vU, vU, vU, vU, vU, vI 0] [] (am_up s1 68 x4 (max (0 : Int) (w32 (x3 - (w32 (x5 - (σ 67 x4))))))) Q))) ∧
    (¬ (σ 40 11 = 0) →
      (x5 ≤ 0 →
        (0 ≤ x4 ∧ x4 < 10) ∧ (∃ T : Option AV → AS → Prop, am_M Ln d 133 [vI (min x3 (w32 (x5 - (σ 67 x4)))), vR 67, vR 68] (am_up σ 67 x4 0) T ∧ ∀ s2, T none s2 →
        (0 ≤ x4 ∧ x4 < 10) ∧ (am_E Ln d 43 158 [vR 40, vI x1, vU, vU, vU, vU, vU, vI 0] [] (am_up s2 68 x4 (max (0 : Int) (w32 (x3 - (w32 (x5 - (σ 67 x4))))))) Q))) ∧
      (¬ (x5 ≤ 0) →
        ∃ T : Option AV → AS → Prop, am_M Ln d 133 [vI x3, vR 67, vR 68] σ T ∧ ∀ s3, T none s3 →
        am_E Ln d 43 158 [vR 40, vI x1, vU, vU, vU, vU, vU, vI 0] [] s3 Q)))) ∧
  (¬ (10 ≤ x6) →
    (0 ≤ w32 (w32 (x2 * 10) + x6) ∧ w32 (w32 (x2 * 10) + x6) < 100) ∧ ((0 ≤ x6 ∧ x6 < 10) ∧ ((0 ≤ w32 (w32 (x2 * 10) + x6) ∧ w32 (w32 (x2 * 10) + x6) < 100) ∧ (am_E Ln d 43 25 [vR 40, vI x1, vI x2, vI x3, vI x4, vI x5, vI (w32 (x6 + 1)), vU] [] (am_up (am_up σ 67 x6 (σ 46 (w32 (w32 (x2 * 10) + x6)))) 46 (w32 (w32 (x2 * 10) + x6)) 0) Q))))) : am_E Ln d 43 25 [vR 40, vI x1, vI x2, vI x3, vI x4, vI x5, vI x6, vU] [] σ Q :=
  am_vc_E (d := d) (m := 43) (cut := [(25, [true, true, true, true, true, true, true, false]), (158, [true, true, false, false, false, false, false, true])]) 39 25 [vR 40, vI x1, vI x2, vI x3, vI x4, vI x5, vI x6, vU] [] σ h
set_option maxRecDepth 100000 in
theorem vl_X6_sell_158 {Ln : Int} {d : Nat} {Q : Option AV → AS → Prop} (σ : AS) (x1 x7 : Int) (h :
  (10 ≤ x7 →
    Q none σ) ∧
  (¬ (10 ≤ x7) →
    (0 ≤ x7 ∧ x7 < 10) ∧ (∃ T : Option AV → AS → Prop, am_M Ln d 77 [vR 41, vI x1, vI x7, vI (σ 68 x7)] σ T ∧ ∀ s1, T none s1 →
    am_E Ln d 43 158 [vR 40, vI x1, vU, vU, vU, vU, vU, vI (w32 (x7 + 1))] [] s1 Q))) : am_E Ln d 43 158 [vR 40, vI x1, vU, vU, vU, vU, vU, vI x7] [] σ Q :=
  am_vc_E (d := d) (m := 43) (cut := [(25, [true, true, true, true, true, true, true, false]), (158, [true, true, false, false, false, false, false, true])]) 14 158 [vR 40, vI x1, vU, vU, vU, vU, vU, vI x7] [] σ h
set_option maxRecDepth 100000 in
theorem vm_X6_makeGood {Ln : Int} {d : Nat} {Q : Option AV → AS → Prop} (σ : AS) (a1 a2 a3 : Int) (h :
  (0 ≤ w32 (w32 (a1 * 10) + a2) ∧ w32 (w32 (a1 * 10) + a2) < 100) ∧ ((0 ≤ w32 (w32 (a1 * 10) + a2) ∧ w32 (w32 (a1 * 10) + a2) < 100) ∧ ((0 ≤ w32 (w32 (a1 * 10) + a2) ∧ w32 (w32 (a1 * 10) + a2) < 100) ∧ (∃ T : Option AV → AS → Prop, am_M Ln d 77 [vR 41, vI a1, vI a2, vI (min a3 (σ 47 (w32 (w32 (a1 * 10) + a2))))] (am_up σ 47 (w32 (w32 (a1 * 10) + a2)) (w32 (σ 47 (w32 (w32 (a1 * 10) + a2)) - (min a3 (σ 47 (w32 (w32 (a1 * 10) + a2))))))) T ∧ ∀ s1, T none s1 →
  (0 ≤ a1 ∧ a1 < 10) ∧ (∃ T : Option AV → AS → Prop, am_M Ln d 77 [vR 41, vI a1, vI (s1 5 a1), vI (w32 (a3 - (min a3 (σ 47 (w32 (w32 (a1 * 10) + a2))))))] s1 T ∧ ∀ s2, T none s2 →
  Q none s2))))) : am_M Ln (d + 1) 44 [vR 40, vI a1, vI a2, vI a3] σ Q :=
  am_vc_E (d := d) (m := 44) (cut := []) 42 0 (am_entry 44 [vR 40, vI a1, vI a2, vI a3]) [] σ h
set_option maxRecDepth 100000 in
theorem vm_X6_ownOf {Ln : Int} {d : Nat} {Q : Option AV → AS → Prop} (σ : AS) (a1 : Int) (h :
  am_E Ln d 45 4 [vR 40, vI a1, vI 0, vI 0] [] σ Q) : am_M Ln (d + 1) 45 [vR 40, vI a1] σ Q :=
  am_vc_E (d := d) (m := 45) (cut := [(4, [true, true, true, true])]) 4 0 (am_entry 45 [vR 40, vI a1]) [] σ h
set_option maxRecDepth 100000 in
theorem vl_X6_ownOf_4 {Ln : Int} {d : Nat} {Q : Option AV → AS → Prop} (σ : AS) (x1 x2 x3 : Int) (h :
  (σ 4 2 ≤ x3 →
    Q (some (vI x2)) σ) ∧
  (¬ (σ 4 2 ≤ x3) →
    (0 ≤ x3 ∧ x3 < 10) ∧ ((σ 5 x3 = x1 →
      ∃ T : Option AV → AS → Prop, am_M Ln d 85 [vR 41, vI x3, vI x1] σ T ∧ ∀ (r2 : Int) s1, T (some (vI r2)) s1 →
      am_E Ln d 45 4 [vR 40, vI x1, vI (w32 (x2 + r2)), vI (w32 (x3 + 1))] [] s1 Q) ∧
    (¬ (σ 5 x3 = x1) →
      am_E Ln d 45 4 [vR 40, vI x1, vI x2, vI (w32 (x3 + 1))] [] σ Q)))) : am_E Ln d 45 4 [vR 40, vI x1, vI x2, vI x3] [] σ Q :=
  am_vc_E (d := d) (m := 45) (cut := [(4, [true, true, true, true])]) 22 4 [vR 40, vI x1, vI x2, vI x3] [] σ h
set_option maxRecDepth 100000 in
theorem vm_X6_claimOf {Ln : Int} {d : Nat} {Q : Option AV → AS → Prop} (σ : AS) (a1 : Int) (h :
  am_E Ln d 46 4 [vR 40, vI a1, vI 0, vI 0] [] σ Q) : am_M Ln (d + 1) 46 [vR 40, vI a1] σ Q :=
  am_vc_E (d := d) (m := 46) (cut := [(4, [true, true, true, true]), (48, [true, true, true, true])]) 4 0 (am_entry 46 [vR 40, vI a1]) [] σ h
set_option maxRecDepth 100000 in
theorem vl_X6_claimOf_4 {Ln : Int} {d : Nat} {Q : Option AV → AS → Prop} (σ : AS) (x1 x2 x3 : Int) (h :
  (σ 4 2 ≤ x3 →
    am_E Ln d 46 48 [vR 40, vI x1, vI x2, vI 0] [] σ Q) ∧
  (¬ (σ 4 2 ≤ x3) →
    (0 ≤ x3 ∧ x3 < 10) ∧ ((σ 5 x3 = x1 →
      am_E Ln d 46 4 [vR 40, vI x1, vI x2, vI (w32 (x3 + 1))] [] σ Q) ∧
    (¬ (σ 5 x3 = x1) →
      ∃ T : Option AV → AS → Prop, am_M Ln d 85 [vR 41, vI x3, vI x1] σ T ∧ ∀ (r2 : Int) s1, T (some (vI r2)) s1 →
      am_E Ln d 46 4 [vR 40, vI x1, vI (w32 (x2 + r2)), vI (w32 (x3 + 1))] [] s1 Q)))) : am_E Ln d 46 4 [vR 40, vI x1, vI x2, vI x3] [] σ Q :=
  am_vc_E (d := d) (m := 46) (cut := [(4, [true, true, true, true]), (48, [true, true, true, true])]) 22 4 [vR 40, vI x1, vI x2, vI x3] [] σ h
set_option maxRecDepth 100000 in
theorem vl_X6_claimOf_48 {Ln : Int} {d : Nat} {Q : Option AV → AS → Prop} (σ : AS) (x1 x2 x3 : Int) (h :
  (10 ≤ x3 →
    Q (some (vI x2)) σ) ∧
  (¬ (10 ≤ x3) →
    ∃ T : Option AV → AS → Prop, am_M Ln d 86 [vR 41, vI x3, vI x1] σ T ∧ ∀ (r2 : Int) s1, T (some (vI r2)) s1 →
    am_E Ln d 46 48 [vR 40, vI x1, vI (w32 (x2 + r2)), vI (w32 (x3 + 1))] [] s1 Q)) : am_E Ln d 46 48 [vR 40, vI x1, vI x2, vI x3] [] σ Q :=
  am_vc_E (d := d) (m := 46) (cut := [(4, [true, true, true, true]), (48, [true, true, true, true])]) 13 48 [vR 40, vI x1, vI x2, vI x3] [] σ h
set_option maxRecDepth 100000 in
theorem vm_X7_add {Ln : Int} {d : Nat} {Q : Option AV → AS → Prop} (σ : AS) (a1 a2 a3 a4 : Int) (h :
  (σ 24 14 < 20 →
    (0 ≤ σ 24 14 ∧ σ 24 14 < 20) ∧ ((0 ≤ σ 24 14 ∧ σ 24 14 < 20) ∧ ((0 ≤ σ 24 14 ∧ σ 24 14 < 20) ∧ ((0 ≤ σ 24 14 ∧ σ 24 14 < 20) ∧ (Q (some (vI (w32 (w32 (σ 24 14 + 1) - 1)))) (am_up (am_up (am_up (am_up (am_up σ 25 (σ 24 14) a1) 26 (σ 24 14) a2) 27 (σ 24 14) a3) 28 (σ 24 14) a4) 24 14 (w32 (σ 24 14 + 1)))))))) ∧
  (¬ (σ 24 14 < 20) →
    Q (some (vI (-1))) σ)) : am_M Ln (d + 1) 47 [vR 24, vI a1, vI a2, vI a3, vI a4] σ Q :=
  am_vc_E (d := d) (m := 47) (cut := []) 39 0 (am_entry 47 [vR 24, vI a1, vI a2, vI a3, vI a4]) [] σ h
set_option maxRecDepth 100000 in
theorem vm_X7_clausesOf {Ln : Int} {d : Nat} {Q : Option AV → AS → Prop} (σ : AS) (a1 : Int) (h :
  (a1 < 20 →
    ((0 : Int) = 0 →
      Q (some (vI (-1))) σ) ∧
    (¬ ((0 : Int) = 0) →
      (0 ≤ w32 (a1 - 20) ∧ w32 (a1 - 20) < 20) ∧ (Q (some (vI (σ 29 (w32 (a1 - 20))))) σ))) ∧
  (¬ (a1 < 20) →
    (w32 (20 + (σ 24 14)) ≤ a1 →
      ((0 : Int) = 0 →
        Q (some (vI (-1))) σ) ∧
      (¬ ((0 : Int) = 0) →
        (0 ≤ w32 (a1 - 20) ∧ w32 (a1 - 20) < 20) ∧ (Q (some (vI (σ 29 (w32 (a1 - 20))))) σ))) ∧
    (¬ (w32 (20 + (σ 24 14)) ≤ a1) →
      ((1 : Int) = 0 →
        Q (some (vI (-1))) σ) ∧
      (¬ ((1 : Int) = 0) →
        (0 ≤ w32 (a1 - 20) ∧ w32 (a1 - 20) < 20) ∧ (Q (some (vI (σ 29 (w32 (a1 - 20))))) σ))))) : am_M Ln (d + 1) 48 [vR 24, vI a1] σ Q :=
  am_vc_E (d := d) (m := 48) (cut := []) 22 0 (am_entry 48 [vR 24, vI a1]) [] σ h
set_option maxRecDepth 100000 in
theorem vm_X7_find {Ln : Int} {d : Nat} {Q : Option AV → AS → Prop} (σ : AS) (a1 a2 a3 a4 : Int) (h :
  ∃ T : Option AV → AS → Prop, am_M Ln d 245 [vR 36, vI 0] σ T ∧ ∀ s1, T none s1 →
  am_E Ln d 49 16 [vR 24, vI a1, vI a2, vI a3, vI a4, vI (w32 (s1 24 14 - 1)), vU, vU, vU, vU] [] s1 Q) : am_M Ln (d + 1) 49 [vR 24, vI a1, vI a2, vI a3, vI a4] σ Q :=
  am_vc_E (d := d) (m := 49) (cut := [(16, [true, true, true, true, true, true, false, false, false, false]), (50, [true, true, true, true, true, true, true, true, false, false])]) 9 0 (am_entry 49 [vR 24, vI a1, vI a2, vI a3, vI a4]) [] σ h
set_option maxRecDepth 100000 in
theorem vl_X7_find_16 {Ln : Int} {d : Nat} {Q : Option AV → AS → Prop} (σ : AS) (x1 x2 x3 x4 x5 : Int) (h :
  (x5 < 0 →
    Q (some (vI (-1))) σ) ∧
  (¬ (x5 < 0) →
    ∃ T : Option AV → AS → Prop, am_M Ln d 50 [vR 24, vI x5, vI x2, vI x3, vI x4] σ T ∧ ∀ (r2 : Int) s1, T (some (vI r2)) s1 →
    (r2 = 0 →
      am_E Ln d 49 50 [vR 24, vI x1, vI x2, vI x3, vI x4, vI x5, vI 0, vI 0, vU, vU] [] s1 Q) ∧
    (¬ (r2 = 0) →
      (0 ≤ x5 ∧ x5 < 20) ∧ (am_E Ln d 49 50 [vR 24, vI x1, vI x2, vI x3, vI x4, vI x5, vI (s1 29 x5), vI 0, vU, vU] [] s1 Q)))) : am_E Ln d 49 16 [vR 24, vI x1, vI x2, vI x3, vI x4, vI x5, vU, vU, vU, vU] [] σ Q :=
  am_vc_E (d := d) (m := 49) (cut := [(16, [true, true, true, true, true, true, false, false, false, false]), (50, [true, true, true, true, true, true, true, true, false, false])]) 17 16 [vR 24, vI x1, vI x2, vI x3, vI x4, vI x5, vU, vU, vU, vU] [] σ h
set_option maxRecDepth 100000 in
theorem vl_X7_find_50 {Ln : Int} {d : Nat} {Q : Option AV → AS → Prop} (σ : AS) (x1 x2 x3 x4 x5 x6 x7 : Int) (h :
  (x6 ≤ x7 →
    am_E Ln d 49 16 [vR 24, vI x1, vI x2, vI x3, vI x4, vI (w32 (x5 + (-1))), vU, vU, vU, vU] [] σ Q) ∧
  (¬ (x6 ≤ x7) →
    (0 ≤ x5 ∧ x5 < 20) ∧ ((bAnd (bShr (σ 36 x5) x7) 1 = 0 →
      ((1 : Int) = 0 →
        ((1 : Int) = 0 →
          am_E Ln d 49 50 [vR 24, vI x1, vI x2, vI x3, vI x4, vI x5, vI x6, vI (w32 (x7 + 1)), vU, vU] [] σ Q) ∧
        (¬ ((1 : Int) = 0) →
          (0 ≤ w32 (w32 (x5 * 12) + x7) ∧ w32 (w32 (x5 * 12) + x7) < 240) ∧ ((σ 30 (w32 (w32 (x5 * 12) + x7)) = x1 →
            ∃ T : Option AV → AS → Prop, am_M Ln d 52 [vR 24, vI (w32 (w32 (x5 * 12) + x7))] σ T ∧ ∀ (r2 : Int) s1, T (some (vI r2)) s1 →
            (r2 = 0 →
              am_E Ln d 49 50 [vR 24, vI x1, vI x2, vI x3, vI x4, vI x5, vI x6, vI (w32 (x7 + 1)), vU, vU] [] s1 Q) ∧
            (¬ (r2 = 0) →
              Q (some (vI (w32 (w32 (x5 * 12) + x7)))) s1)) ∧
          (¬ (σ 30 (w32 (w32 (x5 * 12) + x7)) = x1) →
            am_E Ln d 49 50 [vR 24, vI x1, vI x2, vI x3, vI x4, vI x5, vI x6, vI (w32 (x7 + 1)), vU, vU] [] σ Q)))) ∧
      (¬ ((1 : Int) = 0) →
        (0 ≤ w32 (w32 (x5 * 12) + x7) ∧ w32 (w32 (x5 * 12) + x7) < 240) ∧ ((σ 30 (w32 (w32 (x5 * 12) + x7)) = 120 →
          ∃ T : Option AV → AS → Prop, am_M Ln d 51 [vR 24, vI x5, vI (w32 (w32 (x5 * 12) + x7))] σ T ∧ ∀ s3, T none s3 →
          am_E Ln d 49 50 [vR 24, vI x1, vI x2, vI x3, vI x4, vI x5, vI x6, vI (w32 (x7 + 1)), vU, vU] [] s3 Q) ∧
        (¬ (σ 30 (w32 (w32 (x5 * 12) + x7)) = 120) →
          ((1 : Int) = 0 →
            am_E Ln d 49 50 [vR 24, vI x1, vI x2, vI x3, vI x4, vI x5, vI x6, vI (w32 (x7 + 1)), vU, vU] [] σ Q) ∧
          (¬ ((1 : Int) = 0) →
            (0 ≤ w32 (w32 (x5 * 12) + x7) ∧ w32 (w32 (x5 * 12) + x7) < 240) ∧ ((σ 30 (w32 (w32 (x5 * 12) + x7)) = x1 →
              ∃ T : Option AV → AS → Prop, am_M Ln d 52 [vR 24, vI (w32 (w32 (x5 * 12) + x7))] σ T ∧ ∀ (r5 : Int) s4, T (some (vI r5)) s4 →
              (r5 = 0 →
                am_E Ln d 49 50 [vR 24, vI x1, vI x2, vI x3, vI x4, vI x5, vI x6, vI (w32 (x7 + 1)), vU, vU] [] s4 Q) ∧
              (¬ (r5 = 0) →
                Q (some (vI (w32 (w32 (x5 * 12) + x7)))) s4)) ∧
            (¬ (σ 30 (w32 (w32 (x5 * 12) + x7)) = x1) →
              am_E Ln d 49 50 [vR 24, vI x1, vI x2, vI x3, vI x4, vI x5, vI x6, vI (w32 (x7 + 1)), vU, vU] [] σ Q))))))) ∧
    (¬ (bAnd (bShr (σ 36 x5) x7) 1 = 0) →
      ((0 : Int) = 0 →
        ((0 : Int) = 0 →
          am_E Ln d 49 50 [vR 24, vI x1, vI x2, vI x3, vI x4, vI x5, vI x6, vI (w32 (x7 + 1)), vU, vU] [] σ Q) ∧
        (¬ ((0 : Int) = 0) →
          (0 ≤ w32 (w32 (x5 * 12) + x7) ∧ w32 (w32 (x5 * 12) + x7) < 240) ∧ ((σ 30 (w32 (w32 (x5 * 12) + x7)) = x1 →
            ∃ T : Option AV → AS → Prop, am_M Ln d 52 [vR 24, vI (w32 (w32 (x5 * 12) + x7))] σ T ∧ ∀ (r7 : Int) s6, T (some (vI r7)) s6 →
            (r7 = 0 →
              am_E Ln d 49 50 [vR 24, vI x1, vI x2, vI x3, vI x4, vI x5, vI x6, vI (w32 (x7 + 1)), vU, vU] [] s6 Q) ∧
            (¬ (r7 = 0) →
              Q (some (vI (w32 (w32 (x5 * 12) + x7)))) s6)) ∧
          (¬ (σ 30 (w32 (w32 (x5 * 12) + x7)) = x1) →
            am_E Ln d 49 50 [vR 24, vI x1, vI x2, vI x3, vI x4, vI x5, vI x6, vI (w32 (x7 + 1)), vU, vU] [] σ Q)))) ∧
      (¬ ((0 : Int) = 0) →
        (0 ≤ w32 (w32 (x5 * 12) + x7) ∧ w32 (w32 (x5 * 12) + x7) < 240) ∧ ((σ 30 (w32 (w32 (x5 * 12) + x7)) = 120 →
          ∃ T : Option AV → AS → Prop, am_M Ln d 51 [vR 24, vI x5, vI (w32 (w32 (x5 * 12) + x7))] σ T ∧ ∀ s8, T none s8 →
          am_E Ln d 49 50 [vR 24, vI x1, vI x2, vI x3, vI x4, vI x5, vI x6, vI (w32 (x7 + 1)), vU, vU] [] s8 Q) ∧
        (¬ (σ 30 (w32 (w32 (x5 * 12) + x7)) = 120) →
          ((0 : Int) = 0 →
            am_E Ln d 49 50 [vR 24, vI x1, vI x2, vI x3, vI x4, vI x5, vI x6, vI (w32 (x7 + 1)), vU, vU] [] σ Q) ∧
          (¬ ((0 : Int) = 0) →
            (0 ≤ w32 (w32 (x5 * 12) + x7) ∧ w32 (w32 (x5 * 12) + x7) < 240) ∧ ((σ 30 (w32 (w32 (x5 * 12) + x7)) = x1 →
              ∃ T : Option AV → AS → Prop, am_M Ln d 52 [vR 24, vI (w32 (w32 (x5 * 12) + x7))] σ T ∧ ∀ (r10 : Int) s9, T (some (vI r10)) s9 →
              (r10 = 0 →
                am_E Ln d 49 50 [vR 24, vI x1, vI x2, vI x3, vI x4, vI x5, vI x6, vI (w32 (x7 + 1)), vU, vU] [] s9 Q) ∧
              (¬ (r10 = 0) →
                Q (some (vI (w32 (w32 (x5 * 12) + x7)))) s9)) ∧
            (¬ (σ 30 (w32 (w32 (x5 * 12) + x7)) = x1) →
              am_E Ln d 49 50 [vR 24, vI x1, vI x2, vI x3, vI x4, vI x5, vI x6, vI (w32 (x7 + 1)), vU, vU] [] σ Q)))))))))) : am_E Ln d 49 50 [vR 24, vI x1, vI x2, vI x3, vI x4, vI x5, vI x6, vI x7, vU, vU] [] σ Q :=
  am_vc_E (d := d) (m := 49) (cut := [(16, [true, true, true, true, true, true, false, false, false, false]), (50, [true, true, true, true, true, true, true, true, false, false])]) 43 50 [vR 24, vI x1, vI x2, vI x3, vI x4, vI x5, vI x6, vI x7, vU, vU] [] σ h
set_option maxRecDepth 100000 in
theorem vm_X7_isInForce {Ln : Int} {d : Nat} {Q : Option AV → AS → Prop} (σ : AS) (a1 a2 a3 a4 : Int) (h :
  (0 ≤ a1 ∧ a1 < 20) ∧ ((a4 < σ 28 a1 →
    am_b 0 ∧ Q (some (vI 0)) σ) ∧
  (¬ (a4 < σ 28 a1) →
    (0 ≤ a1 ∧ a1 < 20) ∧ ((σ 25 a1 = a2 →
      (0 ≤ a1 ∧ a1 < 20) ∧ ((a3 < σ 26 a1 →
        am_b 0 ∧ Q (some (vI 0)) σ) ∧
      (¬ (a3 < σ 26 a1) →
        (0 ≤ a1 ∧ a1 < 20) ∧ ((σ 27 a1 < a3 →
          am_b 0 ∧ Q (some (vI 0)) σ) ∧
        (¬ (σ 27 a1 < a3) →
          am_b 1 ∧ Q (some (vI 1)) σ))))) ∧
    (¬ (σ 25 a1 = a2) →
      am_b 0 ∧ Q (some (vI 0)) σ))))) : am_M Ln (d + 1) 50 [vR 24, vI a1, vI a2, vI a3, vI a4] σ Q :=
  am_vc_E (d := d) (m := 50) (cut := []) 27 0 (am_entry 50 [vR 24, vI a1, vI a2, vI a3, vI a4]) [] σ h
set_option maxRecDepth 100000 in
theorem vm_X7_strikeLower {Ln : Int} {d : Nat} {Q : Option AV → AS → Prop} (σ : AS) (a1 a2 : Int) (h :
  (0 ≤ a2 ∧ a2 < 240) ∧ ((σ 31 a2 < 0 →
    Q none σ) ∧
  (¬ (σ 31 a2 < 0) →
    (a1 ≤ σ 31 a2 →
      Q none σ) ∧
    (¬ (a1 ≤ σ 31 a2) →
      (0 ≤ σ 31 a2 ∧ σ 31 a2 < 20) ∧ ((0 ≤ a2 ∧ a2 < 240) ∧ ((0 ≤ σ 31 a2 ∧ σ 31 a2 < 20) ∧ (Q none (am_up σ 36 (σ 31 a2) (bOr (σ 36 (σ 31 a2)) (bShl 1 (σ 32 a2))))))))))) : am_M Ln (d + 1) 51 [vR 24, vI a1, vI a2] σ Q :=
  am_vc_E (d := d) (m := 51) (cut := []) 24 0 (am_entry 51 [vR 24, vI a1, vI a2]) [] σ h
set_option maxRecDepth 100000 in
theorem vm_X7_holds {Ln : Int} {d : Nat} {Q : Option AV → AS → Prop} (σ : AS) (a1 : Int) (h :
  (0 ≤ a1 ∧ a1 < 240) ∧ (am_E Ln d 52 9 [vR 24, vI a1, vI 0, vI (σ 33 a1), vU, vU, vU] [] σ Q)) : am_M Ln (d + 1) 52 [vR 24, vI a1] σ Q :=
  am_vc_E (d := d) (m := 52) (cut := [(9, [true, true, true, true, false, false, false]), (250, [true, true, true, true, false, false, false])]) 7 0 (am_entry 52 [vR 24, vI a1]) [] σ h
set_option maxRecDepth 100000 in
theorem vl_X7_holds_9 {Ln : Int} {d : Nat} {Q : Option AV → AS → Prop} (σ : AS) (x1 x2 x3 : Int) (h :
  (0 ≤ x1 ∧ x1 < 240) ∧ ((σ 34 x1 ≤ x3 →
    (0 ≤ (0 : Int) ∧ (0 : Int) < 40) ∧ ((lCmp (σ 37 0) 0 = 0 →
      am_b 0 ∧ Q (some (vI 0)) σ) ∧
    (¬ (lCmp (σ 37 0) 0 = 0) →
      am_b 1 ∧ Q (some (vI 1)) σ))) ∧
  (¬ (σ 34 x1 ≤ x3) →
    (40 ≤ x2 →
      (0 ≤ (0 : Int) ∧ (0 : Int) < 40) ∧ ((lCmp (σ 37 0) 0 = 0 →
        am_b 0 ∧ Q (some (vI 0)) σ) ∧
      (¬ (lCmp (σ 37 0) 0 = 0) →
        am_b 1 ∧ Q (some (vI 1)) σ))) ∧
    (¬ (40 ≤ x2) →
      (0 ≤ x3 ∧ x3 < 3200) ∧ ((0 ≤ x3 ∧ x3 < 3200) ∧ ((bAnd (σ 35 x3) 15 = 0 →
        (bAnd (σ 35 x3) 15 = 0 →
          (0 ≤ x2 ∧ x2 < 40) ∧ (am_E Ln d 52 250 [vR 24, vI x1, vI (w32 (x2 + 1)), vI x3, vU, vU, vU] [] (am_up σ 37 x2 (bShr (σ 35 x3) 4)) Q)) ∧
        (¬ (bAnd (σ 35 x3) 15 = 0) →
          (0 ≤ bShr (σ 35 x3) 4 ∧ bShr (σ 35 x3) 4 < 8) ∧ ((0 ≤ x2 ∧ x2 < 40) ∧ (am_E Ln d 52 250 [vR 24, vI x1, vI (w32 (x2 + 1)), vI x3, vU, vU, vU] [] (am_up σ 37 x2 (σ 38 (bShr (σ 35 x3) 4))) Q)))) ∧
      (¬ (bAnd (σ 35 x3) 15 = 0) →
        (bAnd (σ 35 x3) 15 = 1 →
          (bAnd (σ 35 x3) 15 = 0 →
            (0 ≤ x2 ∧ x2 < 40) ∧ (am_E Ln d 52 250 [vR 24, vI x1, vI (w32 (x2 + 1)), vI x3, vU, vU, vU] [] (am_up σ 37 x2 (bShr (σ 35 x3) 4)) Q)) ∧
          (¬ (bAnd (σ 35 x3) 15 = 0) →
            (0 ≤ bShr (σ 35 x3) 4 ∧ bShr (σ 35 x3) 4 < 8) ∧ ((0 ≤ x2 ∧ x2 < 40) ∧ (am_E Ln d 52 250 [vR 24, vI x1, vI (w32 (x2 + 1)), vI x3, vU, vU, vU] [] (am_up σ 37 x2 (σ 38 (bShr (σ 35 x3) 4))) Q)))) ∧
        (¬ (bAnd (σ 35 x3) 15 = 1) →
          (x2 ≤ 0 →
            (x2 ≤ 0 →
              (x2 ≤ 1 →
                am_E Ln d 52 250 [vR 24, vI x1, vI x2, vI x3, vU, vU, vU] [] σ Q) ∧
              (¬ (x2 ≤ 1) →
                (0 ≤ w32 (x2 + (-1)) ∧ w32 (x2 + (-1)) < 40) ∧ ((lCmp (σ 37 (w32 (x2 + (-1)))) 0 = 0 →
                  (bAnd (σ 35 x3) 15 = 8 →
                    am_b 0 ∧ Q (some (vI 0)) σ) ∧
                  (¬ (bAnd (σ 35 x3) 15 = 8) →
                    (bAnd (σ 35 x3) 15 = 9 →
                      am_b 0 ∧ Q (some (vI 0)) σ) ∧
                    (¬ (bAnd (σ 35 x3) 15 = 9) →
                      (0 ≤ w32 (w32 (x2 + (-1)) - 1) ∧ w32 (w32 (x2 + (-1)) - 1) < 40) ∧ ((0 ≤ w32 (x2 + (-1)) ∧ w32 (x2 + (-1)) < 40) ∧ (∃ T : Option AV → AS → Prop, am_M Ln d 53 [vI (bAnd (σ 35 x3) 15), vL (σ 37 (w32 (w32 (x2 + (-1)) - 1))), vL (σ 37 (w32 (x2 + (-1))))] σ T ∧ ∀ (r2 : Int) s1, T (some (vL r2)) s1 →
                      (0 ≤ w32 (w32 (x2 + (-1)) - 1) ∧ w32 (w32 (x2 + (-1)) - 1) < 40) ∧ (am_E Ln d 52 250 [vR 24, vI x1, vI (w32 (x2 + (-1))), vI x3, vU, vU, vU] [] (am_up s1 37 (w32 (w32 (x2 + (-1)) - 1)) r2) Q)))))) ∧
                (¬ (lCmp (σ 37 (w32 (x2 + (-1)))) 0 = 0) →
                  (0 ≤ w32 (w32 (x2 + (-1)) - 1) ∧ w32 (w32 (x2 + (-1)) - 1) < 40) ∧ ((0 ≤ w32 (x2 + (-1)) ∧ w32 (x2 + (-1)) < 40) ∧ (∃ T : Option AV → AS → Prop, am_M Ln d 53 [vI (bAnd (σ 35 x3) 15), vL (σ 37 (w32 (w32 (x2 + (-1)) - 1))), vL (σ 37 (w32 (x2 + (-1))))] σ T ∧ ∀ (r4 : Int) s3, T (some (vL r4)) s3 →
                  (0 ≤ w32 (w32 (x2 + (-1)) - 1) ∧ w32 (w32 (x2 + (-1)) - 1) < 40) ∧ (am_E Ln d 52 250 [vR 24, vI x1, vI (w32 (x2 + (-1))), vI x3, vU, vU, vU] [] (am_up s3 37 (w32 (w32 (x2 + (-1)) - 1)) r4) Q))))))) ∧
            (¬ (x2 ≤ 0) →
              (bAnd (σ 35 x3) 15 = 3 →
                (0 ≤ w32 (x2 - 1) ∧ w32 (x2 - 1) < 40) ∧ ((lCmp (σ 37 (w32 (x2 - 1))) 0 = 0 →
                  (bAnd (σ 35 x3) 15 = 4 →
                    ((0 : Int) = 1 →
                      am_E Ln d 52 250 [vR 24, vI x1, vI x2, vI (max x3 (w32 (bShr (σ 35 x3) 4 - 1))), vU, vU, vU] [] σ Q) ∧
                    (¬ ((0 : Int) = 1) →
                      am_E Ln d 52 250 [vR 24, vI x1, vI (w32 (x2 + (-1))), vI x3, vU, vU, vU] [] σ Q)) ∧
                  (¬ (bAnd (σ 35 x3) 15 = 4) →
                    ((0 : Int) = 0 →
                      am_E Ln d 52 250 [vR 24, vI x1, vI x2, vI (max x3 (w32 (bShr (σ 35 x3) 4 - 1))), vU, vU, vU] [] σ Q) ∧
                    (¬ ((0 : Int) = 0) →
                      am_E Ln d 52 250 [vR 24, vI x1, vI (w32 (x2 + (-1))), vI x3, vU, vU, vU] [] σ Q))) ∧
                (¬ (lCmp (σ 37 (w32 (x2 - 1))) 0 = 0) →
                  (bAnd (σ 35 x3) 15 = 4 →
                    ((1 : Int) = 1 →
                      am_E Ln d 52 250 [vR 24, vI x1, vI x2, vI (max x3 (w32 (bShr (σ 35 x3) 4 - 1))), vU, vU, vU] [] σ Q) ∧
                    (¬ ((1 : Int) = 1) →
                      am_E Ln d 52 250 [vR 24, vI x1, vI (w32 (x2 + (-1))), vI x3, vU, vU, vU] [] σ Q)) ∧
                  (¬ (bAnd (σ 35 x3) 15 = 4) →
                    ((1 : Int) = 0 →
                      am_E Ln d 52 250 [vR 24, vI x1, vI x2, vI (max x3 (w32 (bShr (σ 35 x3) 4 - 1))), vU, vU, vU] [] σ Q) ∧
                    (¬ ((1 : Int) = 0) →
                      am_E Ln d 52 250 [vR 24, vI x1, vI (w32 (x2 + (-1))), vI x3, vU, vU, vU] [] σ Q))))) ∧
              (¬ (bAnd (σ 35 x3) 15 = 3) →
                (bAnd (σ 35 x3) 15 = 4 →
                  (0 ≤ w32 (x2 - 1) ∧ w32 (x2 - 1) < 40) ∧ ((lCmp (σ 37 (w32 (x2 - 1))) 0 = 0 →
                    (bAnd (σ 35 x3) 15 = 4 →
                      ((0 : Int) = 1 →
                        am_E Ln d 52 250 [vR 24, vI x1, vI x2, vI (max x3 (w32 (bShr (σ 35 x3) 4 - 1))), vU, vU, vU] [] σ Q) ∧
                      (¬ ((0 : Int) = 1) →
                        am_E Ln d 52 250 [vR 24, vI x1, vI (w32 (x2 + (-1))), vI x3, vU, vU, vU] [] σ Q)) ∧
                    (¬ (bAnd (σ 35 x3) 15 = 4) →
                      ((0 : Int) = 0 →
                        am_E Ln d 52 250 [vR 24, vI x1, vI x2, vI (max x3 (w32 (bShr (σ 35 x3) 4 - 1))), vU, vU, vU] [] σ Q) ∧
                      (¬ ((0 : Int) = 0) →
                        am_E Ln d 52 250 [vR 24, vI x1, vI (w32 (x2 + (-1))), vI x3, vU, vU, vU] [] σ Q))) ∧
                  (¬ (lCmp (σ 37 (w32 (x2 - 1))) 0 = 0) →
                    (bAnd (σ 35 x3) 15 = 4 →
                      ((1 : Int) = 1 →
                        am_E Ln d 52 250 [vR 24, vI x1, vI x2, vI (max x3 (w32 (bShr (σ 35 x3) 4 - 1))), vU, vU, vU] [] σ Q) ∧
                      (¬ ((1 : Int) = 1) →
                        am_E Ln d 52 250 [vR 24, vI x1, vI (w32 (x2 + (-1))), vI x3, vU, vU, vU] [] σ Q)) ∧
                    (¬ (bAnd (σ 35 x3) 15 = 4) →
                      ((1 : Int) = 0 →
                        am_E Ln d 52 250 [vR 24, vI x1, vI x2, vI (max x3 (w32 (bShr (σ 35 x3) 4 - 1))), vU, vU, vU] [] σ Q) ∧
                      (¬ ((1 : Int) = 0) →
                        am_E Ln d 52 250 [vR 24, vI x1, vI (w32 (x2 + (-1))), vI x3, vU, vU, vU] [] σ Q))))) ∧
                (¬ (bAnd (σ 35 x3) 15 = 4) →
                  (x2 ≤ 1 →
                    am_E Ln d 52 250 [vR 24, vI x1, vI x2, vI x3, vU, vU, vU] [] σ Q) ∧
                  (¬ (x2 ≤ 1) →
                    (0 ≤ w32 (x2 + (-1)) ∧ w32 (x2 + (-1)) < 40) ∧ ((lCmp (σ 37 (w32 (x2 + (-1)))) 0 = 0 →
                      (bAnd (σ 35 x3) 15 = 8 →
                        am_b 0 ∧ Q (some (vI 0)) σ) ∧
                      (¬ (bAnd (σ 35 x3) 15 = 8) →
                        (bAnd (σ 35 x3) 15 = 9 →
                          am_b 0 ∧ Q (some (vI 0)) σ) ∧
                        (¬ (bAnd (σ 35 x3) 15 = 9) →
                          (0 ≤ w32 (w32 (x2 + (-1)) - 1) ∧ w32 (w32 (x2 + (-1)) - 1) < 40) ∧ ((0 ≤ w32 (x2 + (-1)) ∧ w32 (x2 + (-1)) < 40) ∧ (∃ T : Option AV → AS → Prop, am_M Ln d 53 [vI (bAnd (σ 35 x3) 15), vL (σ 37 (w32 (w32 (x2 + (-1)) - 1))), vL (σ 37 (w32 (x2 + (-1))))] σ T ∧ ∀ (r6 : Int) s5, T (some (vL r6)) s5 →
                          (0 ≤ w32 (w32 (x2 + (-1)) - 1) ∧ w32 (w32 (x2 + (-1)) - 1) < 40) ∧ (am_E Ln d 52 250 [vR 24, vI x1, vI (w32 (x2 + (-1))), vI x3, vU, vU, vU] [] (am_up s5 37 (w32 (w32 (x2 + (-1)) - 1)) r6) Q)))))) ∧
                    (¬ (lCmp (σ 37 (w32 (x2 + (-1)))) 0 = 0) →
                      (0 ≤ w32 (w32 (x2 + (-1)) - 1) ∧ w32 (w32 (x2 + (-1)) - 1) < 40) ∧ ((0 ≤ w32 (x2 + (-1)) ∧ w32 (x2 + (-1)) < 40) ∧ (∃ T : Option AV → AS → Prop, am_M Ln d 53 [vI (bAnd (σ 35 x3) 15), vL (σ 37 (w32 (w32 (x2 + (-1)) - 1))), vL (σ 37 (w32 (x2 + (-1))))] σ T ∧ ∀ (r8 : Int) s7, T (some (vL r8)) s7 →
                      (0 ≤ w32 (w32 (x2 + (-1)) - 1) ∧ w32 (w32 (x2 + (-1)) - 1) < 40) ∧ (am_E Ln d 52 250 [vR 24, vI x1, vI (w32 (x2 + (-1))), vI x3, vU, vU, vU] [] (am_up s7 37 (w32 (w32 (x2 + (-1)) - 1)) r8) Q)))))))))) ∧
          (¬ (x2 ≤ 0) →
            (bAnd (σ 35 x3) 15 = 2 →
              (0 ≤ w32 (x2 - 1) ∧ w32 (x2 - 1) < 40) ∧ ((0 ≤ w32 (x2 - 1) ∧ w32 (x2 - 1) < 40) ∧ (am_E Ln d 52 250 [vR 24, vI x1, vI x2, vI x3, vU, vU, vU] [] (am_up σ 37 (w32 (x2 - 1)) (w64 (1 - (σ 37 (w32 (x2 - 1)))))) Q))) ∧
            (¬ (bAnd (σ 35 x3) 15 = 2) →
              (x2 ≤ 0 →
                (x2 ≤ 1 →
                  am_E Ln d 52 250 [vR 24, vI x1, vI x2, vI x3, vU, vU, vU] [] σ Q) ∧
                (¬ (x2 ≤ 1) →
                  (0 ≤ w32 (x2 + (-1)) ∧ w32 (x2 + (-1)) < 40) ∧ ((lCmp (σ 37 (w32 (x2 + (-1)))) 0 = 0 →
                    (bAnd (σ 35 x3) 15 = 8 →
                      am_b 0 ∧ Q (some (vI 0)) σ) ∧
                    (¬ (bAnd (σ 35 x3) 15 = 8) →
                      (bAnd (σ 35 x3) 15 = 9 →
                        am_b 0 ∧ Q (some (vI 0)) σ) ∧
                      (¬ (bAnd (σ 35 x3) 15 = 9) →
                        (0 ≤ w32 (w32 (x2 + (-1)) - 1) ∧ w32 (w32 (x2 + (-1)) - 1) < 40) ∧ ((0 ≤ w32 (x2 + (-1)) ∧ w32 (x2 + (-1)) < 40) ∧ (∃ T : Option AV → AS → Prop, am_M Ln d 53 [vI (bAnd (σ 35 x3) 15), vL (σ 37 (w32 (w32 (x2 + (-1)) - 1))), vL (σ 37 (w32 (x2 + (-1))))] σ T ∧ ∀ (r10 : Int) s9, T (some (vL r10)) s9 →
                        (0 ≤ w32 (w32 (x2 + (-1)) - 1) ∧ w32 (w32 (x2 + (-1)) - 1) < 40) ∧ (am_E Ln d 52 250 [vR 24, vI x1, vI (w32 (x2 + (-1))), vI x3, vU, vU, vU] [] (am_up s9 37 (w32 (w32 (x2 + (-1)) - 1)) r10) Q)))))) ∧
                  (¬ (lCmp (σ 37 (w32 (x2 + (-1)))) 0 = 0) →
                    (0 ≤ w32 (w32 (x2 + (-1)) - 1) ∧ w32 (w32 (x2 + (-1)) - 1) < 40) ∧ ((0 ≤ w32 (x2 + (-1)) ∧ w32 (x2 + (-1)) < 40) ∧ (∃ T : Option AV → AS → Prop, am_M Ln d 53 [vI (bAnd (σ 35 x3) 15), vL (σ 37 (w32 (w32 (x2 + (-1)) - 1))), vL (σ 37 (w32 (x2 + (-1))))] σ T ∧ ∀ (r12 : Int) s11, T (some (vL r12)) s11 →
                    (0 ≤ w32 (w32 (x2 + (-1)) - 1) ∧ w32 (w32 (x2 + (-1)) - 1) < 40) ∧ (am_E Ln d 52 250 [vR 24, vI x1, vI (w32 (x2 + (-1))), vI x3, vU, vU, vU] [] (am_up s11 37 (w32 (w32 (x2 + (-1)) - 1)) r12) Q))))))) ∧
              (¬ (x2 ≤ 0) →
                (bAnd (σ 35 x3) 15 = 3 →
                  (0 ≤ w32 (x2 - 1) ∧ w32 (x2 - 1) < 40) ∧ ((lCmp (σ 37 (w32 (x2 - 1))) 0 = 0 →
                    (bAnd (σ 35 x3) 15 = 4 →
                      ((0 : Int) = 1 →
                        am_E Ln d 52 250 [vR 24, vI x1, vI x2, vI (max x3 (w32 (bShr (σ 35 x3) 4 - 1))), vU, vU, vU] [] σ Q) ∧
                      (¬ ((0 : Int) = 1) →
                        am_E Ln d 52 250 [vR 24, vI x1, vI (w32 (x2 + (-1))), vI x3, vU, vU, vU] [] σ Q)) ∧
                    (¬ (bAnd (σ 35 x3) 15 = 4) →
                      ((0 : Int) = 0 →
                        am_E Ln d 52 250 [vR 24, vI x1, vI x2, vI (max x3 (w32 (bShr (σ 35 x3) 4 - 1))), vU, vU, vU] [] σ Q) ∧
                      (¬ ((0 : Int) = 0) →
                        am_E Ln d 52 250 [vR 24, vI x1, vI (w32 (x2 + (-1))), vI x3, vU, vU, vU] [] σ Q))) ∧
                  (¬ (lCmp (σ 37 (w32 (x2 - 1))) 0 = 0) →
                    (bAnd (σ 35 x3) 15 = 4 →
                      ((1 : Int) = 1 →
                        am_E Ln d 52 250 [vR 24, vI x1, vI x2, vI (max x3 (w32 (bShr (σ 35 x3) 4 - 1))), vU, vU, vU] [] σ Q) ∧
                      (¬ ((1 : Int) = 1) →
                        am_E Ln d 52 250 [vR 24, vI x1, vI (w32 (x2 + (-1))), vI x3, vU, vU, vU] [] σ Q)) ∧
                    (¬ (bAnd (σ 35 x3) 15 = 4) →
                      ((1 : Int) = 0 →
                        am_E Ln d 52 250 [vR 24, vI x1, vI x2, vI (max x3 (w32 (bShr (σ 35 x3) 4 - 1))), vU, vU, vU] [] σ Q) ∧
                      (¬ ((1 : Int) = 0) →
                        am_E Ln d 52 250 [vR 24, vI x1, vI (w32 (x2 + (-1))), vI x3, vU, vU, vU] [] σ Q))))) ∧
                (¬ (bAnd (σ 35 x3) 15 = 3) →
                  (bAnd (σ 35 x3) 15 = 4 →
                    (0 ≤ w32 (x2 - 1) ∧ w32 (x2 - 1) < 40) ∧ ((lCmp (σ 37 (w32 (x2 - 1))) 0 = 0 →
                      (bAnd (σ 35 x3) 15 = 4 →
                        ((0 : Int) = 1 →
                          am_E Ln d 52 250 [vR 24, vI x1, vI x2, vI (max x3 (w32 (bShr (σ 35 x3) 4 - 1))), vU, vU, vU] [] σ Q) ∧
                        (¬ ((0 : Int) = 1) →
                          am_E Ln d 52 250 [vR 24, vI x1, vI (w32 (x2 + (-1))), vI x3, vU, vU, vU] [] σ Q)) ∧
                      (¬ (bAnd (σ 35 x3) 15 = 4) →
                        ((0 : Int) = 0 →
                          am_E Ln d 52 250 [vR 24, vI x1, vI x2, vI (max x3 (w32 (bShr (σ 35 x3) 4 - 1))), vU, vU, vU] [] σ Q) ∧
                        (¬ ((0 : Int) = 0) →
                          am_E Ln d 52 250 [vR 24, vI x1, vI (w32 (x2 + (-1))), vI x3, vU, vU, vU] [] σ Q))) ∧
                    (¬ (lCmp (σ 37 (w32 (x2 - 1))) 0 = 0) →
                      (bAnd (σ 35 x3) 15 = 4 →
                        ((1 : Int) = 1 →
                          am_E Ln d 52 250 [vR 24, vI x1, vI x2, vI (max x3 (w32 (bShr (σ 35 x3) 4 - 1))), vU, vU, vU] [] σ Q) ∧
                        (¬ ((1 : Int) = 1) →
                          am_E Ln d 52 250 [vR 24, vI x1, vI (w32 (x2 + (-1))), vI x3, vU, vU, vU] [] σ Q)) ∧
                      (¬ (bAnd (σ 35 x3) 15 = 4) →
                        ((1 : Int) = 0 →
                          am_E Ln d 52 250 [vR 24, vI x1, vI x2, vI (max x3 (w32 (bShr (σ 35 x3) 4 - 1))), vU, vU, vU] [] σ Q) ∧
                        (¬ ((1 : Int) = 0) →
                          am_E Ln d 52 250 [vR 24, vI x1, vI (w32 (x2 + (-1))), vI x3, vU, vU, vU] [] σ Q))))) ∧
                  (¬ (bAnd (σ 35 x3) 15 = 4) →
                    (x2 ≤ 1 →
                      am_E Ln d 52 250 [vR 24, vI x1, vI x2, vI x3, vU, vU, vU] [] σ Q) ∧
                    (¬ (x2 ≤ 1) →
                      (0 ≤ w32 (x2 + (-1)) ∧ w32 (x2 + (-1)) < 40) ∧ ((lCmp (σ 37 (w32 (x2 + (-1)))) 0 = 0 →
                        (bAnd (σ 35 x3) 15 = 8 →
                          am_b 0 ∧ Q (some (vI 0)) σ) ∧
                        (¬ (bAnd (σ 35 x3) 15 = 8) →
                          (bAnd (σ 35 x3) 15 = 9 →
                            am_b 0 ∧ Q (some (vI 0)) σ) ∧
                          (¬ (bAnd (σ 35 x3) 15 = 9) →
                            (0 ≤ w32 (w32 (x2 + (-1)) - 1) ∧ w32 (w32 (x2 + (-1)) - 1) < 40) ∧ ((0 ≤ w32 (x2 + (-1)) ∧ w32 (x2 + (-1)) < 40) ∧ (∃ T : Option AV → AS → Prop, am_M Ln d 53 [vI (bAnd (σ 35 x3) 15), vL (σ 37 (w32 (w32 (x2 + (-1)) - 1))), vL (σ 37 (w32 (x2 + (-1))))] σ T ∧ ∀ (r14 : Int) s13, T (some (vL r14)) s13 →
                            (0 ≤ w32 (w32 (x2 + (-1)) - 1) ∧ w32 (w32 (x2 + (-1)) - 1) < 40) ∧ (am_E Ln d 52 250 [vR 24, vI x1, vI (w32 (x2 + (-1))), vI x3, vU, vU, vU] [] (am_up s13 37 (w32 (w32 (x2 + (-1)) - 1)) r14) Q)))))) ∧
                      (¬ (lCmp (σ 37 (w32 (x2 + (-1)))) 0 = 0) →
                        (0 ≤ w32 (w32 (x2 + (-1)) - 1) ∧ w32 (w32 (x2 + (-1)) - 1) < 40) ∧ ((0 ≤ w32 (x2 + (-1)) ∧ w32 (x2 + (-1)) < 40) ∧ (∃ T : Option AV → AS → Prop, am_M Ln d 53 [vI (bAnd (σ 35 x3) 15), vL (σ 37 (w32 (w32 (x2 + (-1)) - 1))), vL (σ 37 (w32 (x2 + (-1))))] σ T ∧ ∀ (r16 : Int) s15, T (some (vL r16)) s15 →
                        (0 ≤ w32 (w32 (x2 + (-1)) - 1) ∧ w32 (w32 (x2 + (-1)) - 1) < 40) ∧ (am_E Ln d 52 250 [vR 24, vI x1, vI (w32 (x2 + (-1))), vI x3, vU, vU, vU] [] (am_up s15 37 (w32 (w32 (x2 + (-1)) - 1)) r16) Q))))))))))))))))))) : am_E Ln d 52 9 [vR 24, vI x1, vI x2, vI x3, vU, vU, vU] [] σ Q :=
  am_vc_E (d := d) (m := 52) (cut := [(9, [true, true, true, true, false, false, false]), (250, [true, true, true, true, false, false, false])]) 76 9 [vR 24, vI x1, vI x2, vI x3, vU, vU, vU] [] σ h
set_option maxRecDepth 100000 in
theorem vl_X7_holds_250 {Ln : Int} {d : Nat} {Q : Option AV → AS → Prop} (σ : AS) (x1 x2 x3 : Int) (h :
  am_E Ln d 52 9 [vR 24, vI x1, vI x2, vI (w32 (x3 + 1)), vU, vU, vU] [] σ Q) : am_E Ln d 52 250 [vR 24, vI x1, vI x2, vI x3, vU, vU, vU] [] σ Q :=
  am_vc_E (d := d) (m := 52) (cut := [(9, [true, true, true, true, false, false, false]), (250, [true, true, true, true, false, false, false])]) 2 250 [vR 24, vI x1, vI x2, vI x3, vU, vU, vU] [] σ h
set_option maxRecDepth 100000 in
theorem vm_X7_reckon {Ln : Int} {d : Nat} {Q : Option AV → AS → Prop} (σ : AS) (a1 a2 a3 : Int) (h :
  (a1 = 5 →
    Q (some (vL (w64 (a2 + a3)))) σ) ∧
  (a1 = 5 + 1 →
    Q (some (vL (w64 (a2 - a3)))) σ) ∧
  (a1 = 5 + 1 + 1 →
    Q (some (vL (w64 (a2 * a3)))) σ) ∧
  (a1 = 5 + 1 + 1 + 1 →
    (lCmp a3 0 = 0 →
      Q (some (vL 0)) σ) ∧
    (¬ (lCmp a3 0 = 0) →
      ¬ a3 = 0 ∧ (Q (some (vL (w64 (Int.tdiv a2 a3)))) σ))) ∧
  (a1 = 5 + 1 + 1 + 1 + 1 →
    (lCmp a3 0 = 0 →
      Q (some (vL 0)) σ) ∧
    (¬ (lCmp a3 0 = 0) →
      ¬ a3 = 0 ∧ (Q (some (vL (Int.tmod a2 a3))) σ))) ∧
  (a1 = 5 + 1 + 1 + 1 + 1 + 1 →
    (0 ≤ lCmp a2 a3 →
      Q (some (vL 0)) σ) ∧
    (¬ (0 ≤ lCmp a2 a3) →
      Q (some (vL 1)) σ)) ∧
  (a1 = 5 + 1 + 1 + 1 + 1 + 1 + 1 →
    (lCmp a2 a3 ≤ 0 →
      Q (some (vL 0)) σ) ∧
    (¬ (lCmp a2 a3 ≤ 0) →
      Q (some (vL 1)) σ)) ∧
  (a1 < 5 ∨ 11 < a1 →
    (lCmp a2 a3 = 0 →
      Q (some (vL 1)) σ) ∧
    (¬ (lCmp a2 a3 = 0) →
      Q (some (vL 0)) σ)) ∧ True) : am_M Ln (d + 1) 53 [vI a1, vL a2, vL a3] σ Q :=
  am_vc_E (d := d) (m := 53) (cut := []) 10 0 (am_entry 53 [vI a1, vL a2, vL a3]) [] σ h
set_option maxRecDepth 100000 in
theorem vm_X8_read {Ln : Int} {d : Nat} {Q : Option AV → AS → Prop} (σ : AS) (a1 : Int) (h :
  (0 ≤ min (σ 24 14) (19 : Int) ∧ min (σ 24 14) (19 : Int) < 20) ∧ (am_E Ln d 54 62 [vR 39, vU, vI (min (σ 24 14) (19 : Int)), vI 1, vI 0] [] (am_up (am_up (am_up (am_up (am_up (am_up (am_up σ 39 2 a1) 39 3 0) 39 4 0) 39 5 0) 39 6 (w32 ((min (σ 24 14) (19 : Int)) * 160))) 39 7 0) 29 (min (σ 24 14) (19 : Int)) 0) Q)) : am_M Ln (d + 1) 54 [vR 39, vI a1] σ Q :=
  am_vc_E (d := d) (m := 54) (cut := [(62, [true, false, true, true, true])]) 36 0 (am_entry 54 [vR 39, vI a1]) [] σ h
set_option maxRecDepth 100000 in
theorem vl_X8_read_62 {Ln : Int} {d : Nat} {Q : Option AV → AS → Prop} (σ : AS) (x2 x3 x4 : Int) (h :
  (12 < x4 →
    Q (some (vI (w32 (w32 ((-1000) * (σ 39 4)) - (σ 39 5))))) σ) ∧
  (¬ (12 < x4) →
    (x3 = 0 →
      Q (some (vI (w32 (w32 ((-1000) * (σ 39 4)) - (σ 39 5))))) σ) ∧
    (¬ (x3 = 0) →
      ∃ T : Option AV → AS → Prop, am_M Ln d 55 [vR 39, vI x2, vI x4] σ T ∧ ∀ s1, T none s1 →
      (s1 39 4 = 0 →
        (s1 39 2 ≤ s1 39 3 →
          ((0 : Int) = 0 →
            am_E Ln d 54 62 [vR 39, vU, vI x2, vI 0, vI (w32 (x4 + 1))] [] s1 Q) ∧
          (¬ ((0 : Int) = 0) →
            ∃ T : Option AV → AS → Prop, am_M Ln d 64 [vR 39, vI 59] s1 T ∧ ∀ s2, T none s2 →
            am_E Ln d 54 62 [vR 39, vU, vI x2, vI 0, vI (w32 (x4 + 1))] [] s2 Q)) ∧
        (¬ (s1 39 2 ≤ s1 39 3) →
          ((1 : Int) = 0 →
            am_E Ln d 54 62 [vR 39, vU, vI x2, vI 1, vI (w32 (x4 + 1))] [] s1 Q) ∧
          (¬ ((1 : Int) = 0) →
            ∃ T : Option AV → AS → Prop, am_M Ln d 64 [vR 39, vI 59] s1 T ∧ ∀ s3, T none s3 →
            am_E Ln d 54 62 [vR 39, vU, vI x2, vI 1, vI (w32 (x4 + 1))] [] s3 Q))) ∧
      (¬ (s1 39 4 = 0) →
        ((0 : Int) = 0 →
          am_E Ln d 54 62 [vR 39, vU, vI x2, vI 0, vI (w32 (x4 + 1))] [] s1 Q) ∧
        (¬ ((0 : Int) = 0) →
          ∃ T : Option AV → AS → Prop, am_M Ln d 64 [vR 39, vI 59] s1 T ∧ ∀ s4, T none s4 →
          am_E Ln d 54 62 [vR 39, vU, vI x2, vI 0, vI (w32 (x4 + 1))] [] s4 Q))))) : am_E Ln d 54 62 [vR 39, vU, vI x2, vI x3, vI x4] [] σ Q :=
  am_vc_E (d := d) (m := 54) (cut := [(62, [true, false, true, true, true])]) 27 62 [vR 39, vU, vI x2, vI x3, vI x4] [] σ h
set_option maxRecDepth 100000 in
theorem vm_X8_readClause {Ln : Int} {d : Nat} {Q : Option AV → AS → Prop} (σ : AS) (a1 a2 : Int) (h :
  ∃ T : Option AV → AS → Prop, am_M Ln d 66 [vR 39] σ T ∧ ∀ (r2 : Int) s1, T (some (vI r2)) s1 →
  (r2 = 119 →
    (a2 < 12 →
      (0 ≤ w32 (w32 (a1 * 12) + a2) ∧ w32 (w32 (a1 * 12) + a2) < 240) ∧ ((0 ≤ a1 ∧ a1 < 20) ∧ ((r2 = 120 →
        ∃ T : Option AV → AS → Prop, am_M Ln d 62 [vR 39, vI 19] (am_up (am_up (am_up s1 39 3 (w32 (s1 39 3 + 1))) 30 (w32 (w32 (a1 * 12) + a2)) r2) 29 a1 (w32 (a2 + 1))) T ∧ ∀ (r4 : Int) s3, T (some (vI r4)) s3 →
        (0 ≤ w32 (w32 (a1 * 12) + a2) ∧ w32 (w32 (a1 * 12) + a2) < 240) ∧ (∃ T : Option AV → AS → Prop, am_M Ln d 64 [vR 39, vI 46] (am_up s3 31 (w32 (w32 (a1 * 12) + a2)) r4) T ∧ ∀ s5, T none s5 →
        ∃ T : Option AV → AS → Prop, am_M Ln d 62 [vR 39, vI 11] s5 T ∧ ∀ (r7 : Int) s6, T (some (vI r7)) s6 →
        (0 ≤ w32 (w32 (a1 * 12) + a2) ∧ w32 (w32 (a1 * 12) + a2) < 240) ∧ (Q none (am_up s6 32 (w32 (w32 (a1 * 12) + a2)) r7)))) ∧
      (¬ (r2 = 120) →
        (r2 = 119 →
          ∃ T : Option AV → AS → Prop, am_M Ln d 62 [vR 39, vI 4] (am_up (am_up (am_up s1 39 3 (w32 (s1 39 3 + 1))) 30 (w32 (w32 (a1 * 12) + a2)) r2) 29 a1 (w32 (a2 + 1))) T ∧ ∀ (r9 : Int) s8, T (some (vI r9)) s8 →
          (0 ≤ w32 (w32 (a1 * 12) + a2) ∧ w32 (w32 (a1 * 12) + a2) < 240) ∧ (∃ T : Option AV → AS → Prop, am_M Ln d 64 [vR 39, vI 40] (am_up s8 31 (w32 (w32 (a1 * 12) + a2)) r9) T ∧ ∀ s10, T none s10 →
          (0 ≤ w32 (w32 (a1 * 12) + a2) ∧ w32 (w32 (a1 * 12) + a2) < 240) ∧ (∃ T : Option AV → AS → Prop, am_M Ln d 56 [vR 39, vI 1] (am_up s10 33 (w32 (w32 (a1 * 12) + a2)) (w32 (s10 39 6 + (s10 39 7)))) T ∧ ∀ s11, T none s11 →
          ∃ T : Option AV → AS → Prop, am_M Ln d 64 [vR 39, vI 41] s11 T ∧ ∀ s12, T none s12 →
          (0 ≤ w32 (w32 (a1 * 12) + a2) ∧ w32 (w32 (a1 * 12) + a2) < 240) ∧ (Q none (am_up s12 34 (w32 (w32 (a1 * 12) + a2)) (w32 (s12 39 6 + (s12 39 7)))))))) ∧
        (¬ (r2 = 119) →
          (0 ≤ w32 (w32 (a1 * 12) + a2) ∧ w32 (w32 (a1 * 12) + a2) < 240) ∧ (∃ T : Option AV → AS → Prop, am_M Ln d 64 [vR 39, vI 40] (am_up (am_up (am_up (am_up s1 39 3 (w32 (s1 39 3 + 1))) 30 (w32 (w32 (a1 * 12) + a2)) r2) 29 a1 (w32 (a2 + 1))) 31 (w32 (w32 (a1 * 12) + a2)) 0) T ∧ ∀ s13, T none s13 →
          (0 ≤ w32 (w32 (a1 * 12) + a2) ∧ w32 (w32 (a1 * 12) + a2) < 240) ∧ (∃ T : Option AV → AS → Prop, am_M Ln d 56 [vR 39, vI 1] (am_up s13 33 (w32 (w32 (a1 * 12) + a2)) (w32 (s13 39 6 + (s13 39 7)))) T ∧ ∀ s14, T none s14 →
          ∃ T : Option AV → AS → Prop, am_M Ln d 64 [vR 39, vI 41] s14 T ∧ ∀ s15, T none s15 →
          (0 ≤ w32 (w32 (a1 * 12) + a2) ∧ w32 (w32 (a1 * 12) + a2) < 240) ∧ (Q none (am_up s15 34 (w32 (w32 (a1 * 12) + a2)) (w32 (s15 39 6 + (s15 39 7)))))))))))) ∧
    (¬ (a2 < 12) →
      ∃ T : Option AV → AS → Prop, am_M Ln d 65 [vR 39, vI 4, vI (s1 39 3)] s1 T ∧ ∀ s16, T none s16 →
      Q none s16)) ∧
  (¬ (r2 = 119) →
    (r2 = 114 →
      (a2 < 12 →
        (0 ≤ w32 (w32 (a1 * 12) + a2) ∧ w32 (w32 (a1 * 12) + a2) < 240) ∧ ((0 ≤ a1 ∧ a1 < 20) ∧ ((r2 = 120 →
          ∃ T : Option AV → AS → Prop, am_M Ln d 62 [vR 39, vI 19] (am_up (am_up (am_up s1 39 3 (w32 (s1 39 3 + 1))) 30 (w32 (w32 (a1 * 12) + a2)) r2) 29 a1 (w32 (a2 + 1))) T ∧ ∀ (r18 : Int) s17, T (some (vI r18)) s17 →
          (0 ≤ w32 (w32 (a1 * 12) + a2) ∧ w32 (w32 (a1 * 12) + a2) < 240) ∧ (∃ T : Option AV → AS → Prop, am_M Ln d 64 [vR 39, vI 46] (am_up s17 31 (w32 (w32 (a1 * 12) + a2)) r18) T ∧ ∀ s19, T none s19 →
          ∃ T : Option AV → AS → Prop, am_M Ln d 62 [vR 39, vI 11] s19 T ∧ ∀ (r21 : Int) s20, T (some (vI r21)) s20 →
          (0 ≤ w32 (w32 (a1 * 12) + a2) ∧ w32 (w32 (a1 * 12) + a2) < 240) ∧ (Q none (am_up s20 32 (w32 (w32 (a1 * 12) + a2)) r21)))) ∧
        (¬ (r2 = 120) →
          (r2 = 119 →
            ∃ T : Option AV → AS → Prop, am_M Ln d 62 [vR 39, vI 4] (am_up (am_up (am_up s1 39 3 (w32 (s1 39 3 + 1))) 30 (w32 (w32 (a1 * 12) + a2)) r2) 29 a1 (w32 (a2 + 1))) T ∧ ∀ (r23 : Int) s22, T (some (vI r23)) s22 →
            (0 ≤ w32 (w32 (a1 * 12) + a2) ∧ w32 (w32 (a1 * 12) + a2) < 240) ∧ (∃ T : Option AV → AS → Prop, am_M Ln d 64 [vR 39, vI 40] (am_up s22 31 (w32 (w32 (a1 * 12) + a2)) r23) T ∧ ∀ s24, T none s24 →
            (0 ≤ w32 (w32 (a1 * 12) + a2) ∧ w32 (w32 (a1 * 12) + a2) < 240) ∧ (∃ T : Option AV → AS → Prop, am_M Ln d 56 [vR 39, vI 1] (am_up s24 33 (w32 (w32 (a1 * 12) + a2)) (w32 (s24 39 6 + (s24 39 7)))) T ∧ ∀ s25, T none s25 →
            ∃ T : Option AV → AS → Prop, am_M Ln d 64 [vR 39, vI 41] s25 T ∧ ∀ s26, T none s26 →
            (0 ≤ w32 (w32 (a1 * 12) + a2) ∧ w32 (w32 (a1 * 12) + a2) < 240) ∧ (Q none (am_up s26 34 (w32 (w32 (a1 * 12) + a2)) (w32 (s26 39 6 + (s26 39 7)))))))) ∧
          (¬ (r2 = 119) →
            (0 ≤ w32 (w32 (a1 * 12) + a2) ∧ w32 (w32 (a1 * 12) + a2) < 240) ∧ (∃ T : Option AV → AS → Prop, am_M Ln d 64 [vR 39, vI 40] (am_up (am_up (am_up (am_up s1 39 3 (w32 (s1 39 3 + 1))) 30 (w32 (w32 (a1 * 12) + a2)) r2) 29 a1 (w32 (a2 + 1))) 31 (w32 (w32 (a1 * 12) + a2)) 0) T ∧ ∀ s27, T none s27 →
            (0 ≤ w32 (w32 (a1 * 12) + a2) ∧ w32 (w32 (a1 * 12) + a2) < 240) ∧ (∃ T : Option AV → AS → Prop, am_M Ln d 56 [vR 39, vI 1] (am_up s27 33 (w32 (w32 (a1 * 12) + a2)) (w32 (s27 39 6 + (s27 39 7)))) T ∧ ∀ s28, T none s28 →
            ∃ T : Option AV → AS → Prop, am_M Ln d 64 [vR 39, vI 41] s28 T ∧ ∀ s29, T none s29 →
            (0 ≤ w32 (w32 (a1 * 12) + a2) ∧ w32 (w32 (a1 * 12) + a2) < 240) ∧ (Q none (am_up s29 34 (w32 (w32 (a1 * 12) + a2)) (w32 (s29 39 6 + (s29 39 7)))))))))))) ∧
      (¬ (a2 < 12) →
        ∃ T : Option AV → AS → Prop, am_M Ln d 65 [vR 39, vI 4, vI (s1 39 3)] s1 T ∧ ∀ s30, T none s30 →
        Q none s30)) ∧
    (¬ (r2 = 114) →
      (r2 = 103 →
        (a2 < 12 →
          (0 ≤ w32 (w32 (a1 * 12) + a2) ∧ w32 (w32 (a1 * 12) + a2) < 240) ∧ ((0 ≤ a1 ∧ a1 < 20) ∧ ((r2 = 120 →
            ∃ T : Option AV → AS → Prop, am_M Ln d 62 [vR 39, vI 19] (am_up (am_up (am_up s1 39 3 (w32 (s1 39 3 + 1))) 30 (w32 (w32 (a1 * 12) + a2)) r2) 29 a1 (w32 (a2 + 1))) T ∧ ∀ (r32 : Int) s31, T (some (vI r32)) s31 →
            (0 ≤ w32 (w32 (a1 * 12) + a2) ∧ w32 (w32 (a1 * 12) + a2) < 240) ∧ (∃ T : Option AV → AS → Prop, am_M Ln d 64 [vR 39, vI 46] (am_up s31 31 (w32 (w32 (a1 * 12) + a2)) r32) T ∧ ∀ s33, T none s33 →
            ∃ T : Option AV → AS → Prop, am_M Ln d 62 [vR 39, vI 11] s33 T ∧ ∀ (r35 : Int) s34, T (some (vI r35)) s34 →
            (0 ≤ w32 (w32 (a1 * 12) + a2) ∧ w32 (w32 (a1 * 12) + a2) < 240) ∧ (Q none (am_up s34 32 (w32 (w32 (a1 * 12) + a2)) r35)))) ∧
          (¬ (r2 = 120) →
            (r2 = 119 →
              ∃ T : Option AV → AS → Prop, am_M Ln d 62 [vR 39, vI 4] (am_up (am_up (am_up s1 39 3 (w32 (s1 39 3 + 1))) 30 (w32 (w32 (a1 * 12) + a2)) r2) 29 a1 (w32 (a2 + 1))) T ∧ ∀ (r37 : Int) s36, T (some (vI r37)) s36 →
              (0 ≤ w32 (w32 (a1 * 12) + a2) ∧ w32 (w32 (a1 * 12) + a2) < 240) ∧ (∃ T : Option AV → AS → Prop, am_M Ln d 64 [vR 39, vI 40] (am_up s36 31 (w32 (w32 (a1 * 12) + a2)) r37) T ∧ ∀ s38, T none s38 →
              (0 ≤ w32 (w32 (a1 * 12) + a2) ∧ w32 (w32 (a1 * 12) + a2) < 240) ∧ (∃ T : Option AV → AS → Prop, am_M Ln d 56 [vR 39, vI 1] (am_up s38 33 (w32 (w32 (a1 * 12) + a2)) (w32 (s38 39 6 + (s38 39 7)))) T ∧ ∀ s39, T none s39 →
              ∃ T : Option AV → AS → Prop, am_M Ln d 64 [vR 39, vI 41] s39 T ∧ ∀ s40, T none s40 →
              (0 ≤ w32 (w32 (a1 * 12) + a2) ∧ w32 (w32 (a1 * 12) + a2) < 240) ∧ (Q none (am_up s40 34 (w32 (w32 (a1 * 12) + a2)) (w32 (s40 39 6 + (s40 39 7)))))))) ∧
            (¬ (r2 = 119) →
              (0 ≤ w32 (w32 (a1 * 12) + a2) ∧ w32 (w32 (a1 * 12) + a2) < 240) ∧ (∃ T : Option AV → AS → Prop, am_M Ln d 64 [vR 39, vI 40] (am_up (am_up (am_up (am_up s1 39 3 (w32 (s1 39 3 + 1))) 30 (w32 (w32 (a1 * 12) + a2)) r2) 29 a1 (w32 (a2 + 1))) 31 (w32 (w32 (a1 * 12) + a2)) 0) T ∧ ∀ s41, T none s41 →
              (0 ≤ w32 (w32 (a1 * 12) + a2) ∧ w32 (w32 (a1 * 12) + a2) < 240) ∧ (∃ T : Option AV → AS → Prop, am_M Ln d 56 [vR 39, vI 1] (am_up s41 33 (w32 (w32 (a1 * 12) + a2)) (w32 (s41 39 6 + (s41 39 7)))) T ∧ ∀ s42, T none s42 →
              ∃ T : Option AV → AS → Prop, am_M Ln d 64 [vR 39, vI 41] s42 T ∧ ∀ s43, T none s43 →
              (0 ≤ w32 (w32 (a1 * 12) + a2) ∧ w32 (w32 (a1 * 12) + a2) < 240) ∧ (Q none (am_up s43 34 (w32 (w32 (a1 * 12) + a2)) (w32 (s43 39 6 + (s43 39 7)))))))))))) ∧
        (¬ (a2 < 12) →
          ∃ T : Option AV → AS → Prop, am_M Ln d 65 [vR 39, vI 4, vI (s1 39 3)] s1 T ∧ ∀ s44, T none s44 →
          Q none s44)) ∧
      (¬ (r2 = 103) →
        (r2 = 120 →
          (a2 < 12 →
            (0 ≤ w32 (w32 (a1 * 12) + a2) ∧ w32 (w32 (a1 * 12) + a2) < 240) ∧ ((0 ≤ a1 ∧ a1 < 20) ∧ ((r2 = 120 →
              ∃ T : Option AV → AS → Prop, am_M Ln d 62 [vR 39, vI 19] (am_up (am_up (am_up s1 39 3 (w32 (s1 39 3 + 1))) 30 (w32 (w32 (a1 * 12) + a2)) r2) 29 a1 (w32 (a2 + 1))) T ∧ ∀ (r46 : Int) s45, T (some (vI r46)) s45 →
              (0 ≤ w32 (w32 (a1 * 12) + a2) ∧ w32 (w32 (a1 * 12) + a2) < 240) ∧ (∃ T : Option AV → AS → Prop, am_M Ln d 64 [vR 39, vI 46] (am_up s45 31 (w32 (w32 (a1 * 12) + a2)) r46) T ∧ ∀ s47, T none s47 →
              ∃ T : Option AV → AS → Prop, am_M Ln d 62 [vR 39, vI 11] s47 T ∧ ∀ (r49 : Int) s48, T (some (vI r49)) s48 →
              (0 ≤ w32 (w32 (a1 * 12) + a2) ∧ w32 (w32 (a1 * 12) + a2) < 240) ∧ (Q none (am_up s48 32 (w32 (w32 (a1 * 12) + a2)) r49)))) ∧
            (¬ (r2 = 120) →
              (r2 = 119 →
                ∃ T : Option AV → AS → Prop, am_M Ln d 62 [vR 39, vI 4] (am_up (am_up (am_up s1 39 3 (w32 (s1 39 3 + 1))) 30 (w32 (w32 (a1 * 12) + a2)) r2) 29 a1 (w32 (a2 + 1))) T ∧ ∀ (r51 : Int) s50, T (some (vI r51)) s50 →
                (0 ≤ w32 (w32 (a1 * 12) + a2) ∧ w32 (w32 (a1 * 12) + a2) < 240) ∧ (∃ T : Option AV → AS → Prop, am_M Ln d 64 [vR 39, vI 40] (am_up s50 31 (w32 (w32 (a1 * 12) + a2)) r51) T ∧ ∀ s52, T none s52 →
                (0 ≤ w32 (w32 (a1 * 12) + a2) ∧ w32 (w32 (a1 * 12) + a2) < 240) ∧ (∃ T : Option AV → AS → Prop, am_M Ln d 56 [vR 39, vI 1] (am_up s52 33 (w32 (w32 (a1 * 12) + a2)) (w32 (s52 39 6 + (s52 39 7)))) T ∧ ∀ s53, T none s53 →
                ∃ T : Option AV → AS → Prop, am_M Ln d 64 [vR 39, vI 41] s53 T ∧ ∀ s54, T none s54 →
                (0 ≤ w32 (w32 (a1 * 12) + a2) ∧ w32 (w32 (a1 * 12) + a2) < 240) ∧ (Q none (am_up s54 34 (w32 (w32 (a1 * 12) + a2)) (w32 (s54 39 6 + (s54 39 7)))))))) ∧
              (¬ (r2 = 119) →
                (0 ≤ w32 (w32 (a1 * 12) + a2) ∧ w32 (w32 (a1 * 12) + a2) < 240) ∧ (∃ T : Option AV → AS → Prop, am_M Ln d 64 [vR 39, vI 40] (am_up (am_up (am_up (am_up s1 39 3 (w32 (s1 39 3 + 1))) 30 (w32 (w32 (a1 * 12) + a2)) r2) 29 a1 (w32 (a2 + 1))) 31 (w32 (w32 (a1 * 12) + a2)) 0) T ∧ ∀ s55, T none s55 →
                (0 ≤ w32 (w32 (a1 * 12) + a2) ∧ w32 (w32 (a1 * 12) + a2) < 240) ∧ (∃ T : Option AV → AS → Prop, am_M Ln d 56 [vR 39, vI 1] (am_up s55 33 (w32 (w32 (a1 * 12) + a2)) (w32 (s55 39 6 + (s55 39 7)))) T ∧ ∀ s56, T none s56 →
                ∃ T : Option AV → AS → Prop, am_M Ln d 64 [vR 39, vI 41] s56 T ∧ ∀ s57, T none s57 →
                (0 ≤ w32 (w32 (a1 * 12) + a2) ∧ w32 (w32 (a1 * 12) + a2) < 240) ∧ (Q none (am_up s57 34 (w32 (w32 (a1 * 12) + a2)) (w32 (s57 39 6 + (s57 39 7)))))))))))) ∧
          (¬ (a2 < 12) →
            ∃ T : Option AV → AS → Prop, am_M Ln d 65 [vR 39, vI 4, vI (s1 39 3)] s1 T ∧ ∀ s58, T none s58 →
            Q none s58)) ∧
        (¬ (r2 = 120) →
          ∃ T : Option AV → AS → Prop, am_M Ln d 65 [vR 39, vI 1, vI (s1 39 3)] s1 T ∧ ∀ s59, T none s59 →
          Q none s59))))) : am_M Ln (d + 1) 55 [vR 39, vI a1, vI a2] σ Q :=
  am_vc_E (d := d) (m := 55) (cut := []) 89 0 (am_entry 55 [vR 39, vI a1, vI a2]) [] σ h
set_option maxRecDepth 100000 in
theorem vm_X8_readCondition {Ln : Int} {d : Nat} {Q : Option AV → AS → Prop} (σ : AS) (a1 : Int) (h :
  ∃ T : Option AV → AS → Prop, am_M Ln d 57 [vR 39, vI a1] σ T ∧ ∀ s1, T none s1 →
  am_E Ln d 56 5 [vR 39, vI a1, vU] [] s1 Q) : am_M Ln (d + 1) 56 [vR 39, vI a1] σ Q :=
  am_vc_E (d := d) (m := 56) (cut := [(5, [true, true, false])]) 3 0 (am_entry 56 [vR 39, vI a1]) [] σ h
set_option maxRecDepth 100000 in
theorem vl_X8_readCondition_5 {Ln : Int} {d : Nat} {Q : Option AV → AS → Prop} (σ : AS) (x1 : Int) (h :
  (σ 39 4 = 0 →
    (σ 39 2 ≤ σ 39 3 →
      Q none σ) ∧
    (¬ (σ 39 2 ≤ σ 39 3) →
      ∃ T : Option AV → AS → Prop, am_M Ln d 66 [vR 39] σ T ∧ ∀ (r2 : Int) s1, T (some (vI r2)) s1 →
      (r2 = 124 →
        ∃ T : Option AV → AS → Prop, am_M Ln d 67 [vR 39, vI 4, vI 0] (am_up s1 39 3 (w32 (s1 39 3 + 1))) T ∧ ∀ (r4 : Int) s3, T (some (vI r4)) s3 →
        ∃ T : Option AV → AS → Prop, am_M Ln d 57 [vR 39, vI x1] s3 T ∧ ∀ s5, T none s5 →
        ∃ T : Option AV → AS → Prop, am_M Ln d 68 [vR 39, vI r4, vI 4] s5 T ∧ ∀ s6, T none s6 →
        am_E Ln d 56 5 [vR 39, vI x1, vU] [] s6 Q) ∧
      (¬ (r2 = 124) →
        Q none s1))) ∧
  (¬ (σ 39 4 = 0) →
    Q none σ)) : am_E Ln d 56 5 [vR 39, vI x1, vU] [] σ Q :=
  am_vc_E (d := d) (m := 56) (cut := [(5, [true, true, false])]) 31 5 [vR 39, vI x1, vU] [] σ h
set_option maxRecDepth 100000 in
theorem vm_X8_readPart {Ln : Int} {d : Nat} {Q : Option AV → AS → Prop} (σ : AS) (a1 : Int) (h :
  ∃ T : Option AV → AS → Prop, am_M Ln d 58 [vR 39, vI a1] σ T ∧ ∀ s1, T none s1 →
  am_E Ln d 57 5 [vR 39, vI a1, vU] [] s1 Q) : am_M Ln (d + 1) 57 [vR 39, vI a1] σ Q :=
  am_vc_E (d := d) (m := 57) (cut := [(5, [true, true, false])]) 3 0 (am_entry 57 [vR 39, vI a1]) [] σ h
set_option maxRecDepth 100000 in
theorem vl_X8_readPart_5 {Ln : Int} {d : Nat} {Q : Option AV → AS → Prop} (σ : AS) (x1 : Int) (h :
  (σ 39 4 = 0 →
    (σ 39 2 ≤ σ 39 3 →
      Q none σ) ∧
    (¬ (σ 39 2 ≤ σ 39 3) →
      ∃ T : Option AV → AS → Prop, am_M Ln d 66 [vR 39] σ T ∧ ∀ (r2 : Int) s1, T (some (vI r2)) s1 →
      (r2 = 38 →
        ∃ T : Option AV → AS → Prop, am_M Ln d 67 [vR 39, vI 3, vI 0] (am_up s1 39 3 (w32 (s1 39 3 + 1))) T ∧ ∀ (r4 : Int) s3, T (some (vI r4)) s3 →
        ∃ T : Option AV → AS → Prop, am_M Ln d 58 [vR 39, vI x1] s3 T ∧ ∀ s5, T none s5 →
        ∃ T : Option AV → AS → Prop, am_M Ln d 68 [vR 39, vI r4, vI 3] s5 T ∧ ∀ s6, T none s6 →
        am_E Ln d 57 5 [vR 39, vI x1, vU] [] s6 Q) ∧
      (¬ (r2 = 38) →
        Q none s1))) ∧
  (¬ (σ 39 4 = 0) →
    Q none σ)) : am_E Ln d 57 5 [vR 39, vI x1, vU] [] σ Q :=
  am_vc_E (d := d) (m := 57) (cut := [(5, [true, true, false])]) 31 5 [vR 39, vI x1, vU] [] σ h
set_option maxRecDepth 100000 in
theorem vm_X8_readPiece {Ln : Int} {d : Nat} {Q : Option AV → AS → Prop} (σ : AS) (a1 : Int) (h :
  (σ 39 4 = 0 →
    ∃ T : Option AV → AS → Prop, am_M Ln d 66 [vR 39] σ T ∧ ∀ (r2 : Int) s1, T (some (vI r2)) s1 →
    (r2 = 33 →
      ∃ T : Option AV → AS → Prop, am_M Ln d 63 [vR 39, vI a1] s1 T ∧ ∀ (r4 : Int) s3, T (some (vI r4)) s3 →
      (r4 = 0 →
        Q none s3) ∧
      (¬ (r4 = 0) →
        ∃ T : Option AV → AS → Prop, am_M Ln d 58 [vR 39, vI (w32 (a1 + 1))] s3 T ∧ ∀ s5, T none s5 →
        ∃ T : Option AV → AS → Prop, am_M Ln d 67 [vR 39, vI 2, vI 0] s5 T ∧ ∀ (r7 : Int) s6, T (some (vI r7)) s6 →
        Q none s6)) ∧
    (¬ (r2 = 33) →
      (r2 = 40 →
        ∃ T : Option AV → AS → Prop, am_M Ln d 63 [vR 39, vI a1] s1 T ∧ ∀ (r9 : Int) s8, T (some (vI r9)) s8 →
        (r9 = 0 →
          Q none s8) ∧
        (¬ (r9 = 0) →
          ∃ T : Option AV → AS → Prop, am_M Ln d 56 [vR 39, vI (w32 (a1 + 1))] s8 T ∧ ∀ s10, T none s10 →
          ∃ T : Option AV → AS → Prop, am_M Ln d 64 [vR 39, vI 41] s10 T ∧ ∀ s11, T none s11 →
          Q none s11)) ∧
      (¬ (r2 = 40) →
        ∃ T : Option AV → AS → Prop, am_M Ln d 59 [vR 39, vI a1] s1 T ∧ ∀ s12, T none s12 →
        ∃ T : Option AV → AS → Prop, am_M Ln d 66 [vR 39] s12 T ∧ ∀ (r14 : Int) s13, T (some (vI r14)) s13 →
        ∃ T : Option AV → AS → Prop, am_M Ln d 70 [vI r14] s13 T ∧ ∀ (r16 : Int) s15, T (some (vI r16)) s15 →
        (r16 = (-1) →
          ∃ T : Option AV → AS → Prop, am_M Ln d 65 [vR 39, vI 1, vI (s15 39 3)] s15 T ∧ ∀ s17, T none s17 →
          ∃ T : Option AV → AS → Prop, am_M Ln d 59 [vR 39, vI a1] (am_up s17 39 3 (w32 (s17 39 3 + 1))) T ∧ ∀ s18, T none s18 →
          ∃ T : Option AV → AS → Prop, am_M Ln d 67 [vR 39, vI r16, vI 0] s18 T ∧ ∀ (r20 : Int) s19, T (some (vI r20)) s19 →
          Q none s19) ∧
        (¬ (r16 = (-1)) →
          ∃ T : Option AV → AS → Prop, am_M Ln d 59 [vR 39, vI a1] (am_up s15 39 3 (w32 (s15 39 3 + 1))) T ∧ ∀ s21, T none s21 →
          ∃ T : Option AV → AS → Prop, am_M Ln d 67 [vR 39, vI r16, vI 0] s21 T ∧ ∀ (r23 : Int) s22, T (some (vI r23)) s22 →
          Q none s22)))) ∧
  (¬ (σ 39 4 = 0) →
    Q none σ)) : am_M Ln (d + 1) 58 [vR 39, vI a1] σ Q :=
  am_vc_E (d := d) (m := 58) (cut := []) 42 0 (am_entry 58 [vR 39, vI a1]) [] σ h
set_option maxRecDepth 100000 in
theorem vm_X8_readSum {Ln : Int} {d : Nat} {Q : Option AV → AS → Prop} (σ : AS) (a1 : Int) (h :
  ∃ T : Option AV → AS → Prop, am_M Ln d 60 [vR 39, vI a1] σ T ∧ ∀ s1, T none s1 →
  am_E Ln d 59 5 [vR 39, vI a1, vU] [] s1 Q) : am_M Ln (d + 1) 59 [vR 39, vI a1] σ Q :=
  am_vc_E (d := d) (m := 59) (cut := [(5, [true, true, false])]) 3 0 (am_entry 59 [vR 39, vI a1]) [] σ h
set_option maxRecDepth 100000 in
theorem vl_X8_readSum_5 {Ln : Int} {d : Nat} {Q : Option AV → AS → Prop} (σ : AS) (x1 : Int) (h :
  (σ 39 4 = 0 →
    (σ 39 2 ≤ σ 39 3 →
      Q none σ) ∧
    (¬ (σ 39 2 ≤ σ 39 3) →
      ∃ T : Option AV → AS → Prop, am_M Ln d 66 [vR 39] σ T ∧ ∀ (r2 : Int) s1, T (some (vI r2)) s1 →
      (r2 = 43 →
        ∃ T : Option AV → AS → Prop, am_M Ln d 66 [vR 39] s1 T ∧ ∀ (r4 : Int) s3, T (some (vI r4)) s3 →
        (r4 = 43 →
          ∃ T : Option AV → AS → Prop, am_M Ln d 60 [vR 39, vI x1] (am_up s3 39 3 (w32 (s3 39 3 + 1))) T ∧ ∀ s5, T none s5 →
          ∃ T : Option AV → AS → Prop, am_M Ln d 67 [vR 39, vI 5, vI 0] s5 T ∧ ∀ (r7 : Int) s6, T (some (vI r7)) s6 →
          am_E Ln d 59 5 [vR 39, vI x1, vU] [] s6 Q) ∧
        (¬ (r4 = 43) →
          ∃ T : Option AV → AS → Prop, am_M Ln d 60 [vR 39, vI x1] (am_up s3 39 3 (w32 (s3 39 3 + 1))) T ∧ ∀ s8, T none s8 →
          ∃ T : Option AV → AS → Prop, am_M Ln d 67 [vR 39, vI 6, vI 0] s8 T ∧ ∀ (r10 : Int) s9, T (some (vI r10)) s9 →
          am_E Ln d 59 5 [vR 39, vI x1, vU] [] s9 Q)) ∧
      (¬ (r2 = 43) →
        ∃ T : Option AV → AS → Prop, am_M Ln d 66 [vR 39] s1 T ∧ ∀ (r12 : Int) s11, T (some (vI r12)) s11 →
        (r12 = 45 →
          ∃ T : Option AV → AS → Prop, am_M Ln d 66 [vR 39] s11 T ∧ ∀ (r14 : Int) s13, T (some (vI r14)) s13 →
          (r14 = 43 →
            ∃ T : Option AV → AS → Prop, am_M Ln d 60 [vR 39, vI x1] (am_up s13 39 3 (w32 (s13 39 3 + 1))) T ∧ ∀ s15, T none s15 →
            ∃ T : Option AV → AS → Prop, am_M Ln d 67 [vR 39, vI 5, vI 0] s15 T ∧ ∀ (r17 : Int) s16, T (some (vI r17)) s16 →
            am_E Ln d 59 5 [vR 39, vI x1, vU] [] s16 Q) ∧
          (¬ (r14 = 43) →
            ∃ T : Option AV → AS → Prop, am_M Ln d 60 [vR 39, vI x1] (am_up s13 39 3 (w32 (s13 39 3 + 1))) T ∧ ∀ s18, T none s18 →
            ∃ T : Option AV → AS → Prop, am_M Ln d 67 [vR 39, vI 6, vI 0] s18 T ∧ ∀ (r20 : Int) s19, T (some (vI r20)) s19 →
            am_E Ln d 59 5 [vR 39, vI x1, vU] [] s19 Q)) ∧
        (¬ (r12 = 45) →
          Q none s11)))) ∧
  (¬ (σ 39 4 = 0) →
    Q none σ)) : am_E Ln d 59 5 [vR 39, vI x1, vU] [] σ Q :=
  am_vc_E (d := d) (m := 59) (cut := [(5, [true, true, false])]) 38 5 [vR 39, vI x1, vU] [] σ h
set_option maxRecDepth 100000 in
theorem vm_X8_readTerm {Ln : Int} {d : Nat} {Q : Option AV → AS → Prop} (σ : AS) (a1 : Int) (h :
  ∃ T : Option AV → AS → Prop, am_M Ln d 61 [vR 39, vI a1] σ T ∧ ∀ s1, T none s1 →
  am_E Ln d 60 5 [vR 39, vI a1, vU] [] s1 Q) : am_M Ln (d + 1) 60 [vR 39, vI a1] σ Q :=
  am_vc_E (d := d) (m := 60) (cut := [(5, [true, true, false])]) 3 0 (am_entry 60 [vR 39, vI a1]) [] σ h
set_option maxRecDepth 100000 in
theorem vl_X8_readTerm_5 {Ln : Int} {d : Nat} {Q : Option AV → AS → Prop} (σ : AS) (x1 : Int) (h :
  (σ 39 4 = 0 →
    (σ 39 2 ≤ σ 39 3 →
      Q none σ) ∧
    (¬ (σ 39 2 ≤ σ 39 3) →
      ∃ T : Option AV → AS → Prop, am_M Ln d 66 [vR 39] σ T ∧ ∀ (r2 : Int) s1, T (some (vI r2)) s1 →
      ∃ T : Option AV → AS → Prop, am_M Ln d 71 [vI r2] s1 T ∧ ∀ (r4 : Int) s3, T (some (vI r4)) s3 →
      (r4 = (-1) →
        Q none s3) ∧
      (¬ (r4 = (-1)) →
        ∃ T : Option AV → AS → Prop, am_M Ln d 66 [vR 39] s3 T ∧ ∀ (r6 : Int) s5, T (some (vI r6)) s5 →
        ∃ T : Option AV → AS → Prop, am_M Ln d 71 [vI r6] s5 T ∧ ∀ (r8 : Int) s7, T (some (vI r8)) s7 →
        ∃ T : Option AV → AS → Prop, am_M Ln d 61 [vR 39, vI x1] (am_up s7 39 3 (w32 (s7 39 3 + 1))) T ∧ ∀ s9, T none s9 →
        ∃ T : Option AV → AS → Prop, am_M Ln d 67 [vR 39, vI r8, vI 0] s9 T ∧ ∀ (r11 : Int) s10, T (some (vI r11)) s10 →
        am_E Ln d 60 5 [vR 39, vI x1, vU] [] s10 Q))) ∧
  (¬ (σ 39 4 = 0) →
    Q none σ)) : am_E Ln d 60 5 [vR 39, vI x1, vU] [] σ Q :=
  am_vc_E (d := d) (m := 60) (cut := [(5, [true, true, false])]) 32 5 [vR 39, vI x1, vU] [] σ h
set_option maxRecDepth 100000 in
theorem vm_X8_readFactor {Ln : Int} {d : Nat} {Q : Option AV → AS → Prop} (σ : AS) (a1 : Int) (h :
  (σ 39 4 = 0 →
    ∃ T : Option AV → AS → Prop, am_M Ln d 66 [vR 39] σ T ∧ ∀ (r2 : Int) s1, T (some (vI r2)) s1 →
    (r2 = 91 →
      ∃ T : Option AV → AS → Prop, am_M Ln d 63 [vR 39, vI a1] s1 T ∧ ∀ (r4 : Int) s3, T (some (vI r4)) s3 →
      (r4 = 0 →
        Q none s3) ∧
      (¬ (r4 = 0) →
        ∃ T : Option AV → AS → Prop, am_M Ln d 59 [vR 39, vI (w32 (a1 + 1))] s3 T ∧ ∀ s5, T none s5 →
        ∃ T : Option AV → AS → Prop, am_M Ln d 64 [vR 39, vI 93] s5 T ∧ ∀ s6, T none s6 →
        Q none s6)) ∧
    (¬ (r2 = 91) →
      ∃ T : Option AV → AS → Prop, am_M Ln d 69 [vI r2] s1 T ∧ ∀ (r8 : Int) s7, T (some (vI r8)) s7 →
      (r8 = 0 →
        ∃ T : Option AV → AS → Prop, am_M Ln d 72 [vI r2] s7 T ∧ ∀ (r10 : Int) s9, T (some (vI r10)) s9 →
        (r10 = (-1) →
          ∃ T : Option AV → AS → Prop, am_M Ln d 65 [vR 39, vI 1, vI (s9 39 3)] s9 T ∧ ∀ s11, T none s11 →
          Q none s11) ∧
        (¬ (r10 = (-1)) →
          ∃ T : Option AV → AS → Prop, am_M Ln d 72 [vI r2] s9 T ∧ ∀ (r13 : Int) s12, T (some (vI r13)) s12 →
          ∃ T : Option AV → AS → Prop, am_M Ln d 67 [vR 39, vI 1, vI r13] s12 T ∧ ∀ (r15 : Int) s14, T (some (vI r15)) s14 →
          Q none (am_up s14 39 3 (w32 (s14 39 3 + 1))))) ∧
      (¬ (r8 = 0) →
        ∃ T : Option AV → AS → Prop, am_M Ln d 62 [vR 39, vI 999999] s7 T ∧ ∀ (r17 : Int) s16, T (some (vI r17)) s16 →
        ∃ T : Option AV → AS → Prop, am_M Ln d 67 [vR 39, vI 0, vI r17] s16 T ∧ ∀ (r19 : Int) s18, T (some (vI r19)) s18 →
        Q none s18))) ∧
  (¬ (σ 39 4 = 0) →
    Q none σ)) : am_M Ln (d + 1) 61 [vR 39, vI a1] σ Q :=
  am_vc_E (d := d) (m := 61) (cut := []) 30 0 (am_entry 61 [vR 39, vI a1]) [] σ h
set_option maxRecDepth 100000 in
theorem vm_X8_readNumber {Ln : Int} {d : Nat} {Q : Option AV → AS → Prop} (σ : AS) (a1 : Int) (h :
  am_E Ln d 62 7 [vR 39, vI a1, vI (σ 39 3), vI 0] [] σ Q) : am_M Ln (d + 1) 62 [vR 39, vI a1] σ Q :=
  am_vc_E (d := d) (m := 62) (cut := [(7, [true, true, true, true])]) 5 0 (am_entry 62 [vR 39, vI a1]) [] σ h
set_option maxRecDepth 100000 in
theorem vl_X8_readNumber_7 {Ln : Int} {d : Nat} {Q : Option AV → AS → Prop} (σ : AS) (x1 x2 x3 : Int) (h :
  (σ 39 4 = 0 →
    (σ 39 2 ≤ σ 39 3 →
      (σ 39 3 = x2 →
        ∃ T : Option AV → AS → Prop, am_M Ln d 65 [vR 39, vI 1, vI (σ 39 3)] σ T ∧ ∀ s1, T none s1 →
        (x3 ≤ x1 →
          Q (some (vI x3)) s1) ∧
        (¬ (x3 ≤ x1) →
          ∃ T : Option AV → AS → Prop, am_M Ln d 65 [vR 39, vI 3, vI x2] s1 T ∧ ∀ s2, T none s2 →
          Q (some (vI x3)) s2)) ∧
      (¬ (σ 39 3 = x2) →
        (x3 ≤ x1 →
          Q (some (vI x3)) σ) ∧
        (¬ (x3 ≤ x1) →
          ∃ T : Option AV → AS → Prop, am_M Ln d 65 [vR 39, vI 3, vI x2] σ T ∧ ∀ s3, T none s3 →
          Q (some (vI x3)) s3))) ∧
    (¬ (σ 39 2 ≤ σ 39 3) →
      ∃ T : Option AV → AS → Prop, am_M Ln d 66 [vR 39] σ T ∧ ∀ (r5 : Int) s4, T (some (vI r5)) s4 →
      ∃ T : Option AV → AS → Prop, am_M Ln d 69 [vI r5] s4 T ∧ ∀ (r7 : Int) s6, T (some (vI r7)) s6 →
      (r7 = 0 →
        (s6 39 3 = x2 →
          ∃ T : Option AV → AS → Prop, am_M Ln d 65 [vR 39, vI 1, vI (s6 39 3)] s6 T ∧ ∀ s8, T none s8 →
          (x3 ≤ x1 →
            Q (some (vI x3)) s8) ∧
          (¬ (x3 ≤ x1) →
            ∃ T : Option AV → AS → Prop, am_M Ln d 65 [vR 39, vI 3, vI x2] s8 T ∧ ∀ s9, T none s9 →
            Q (some (vI x3)) s9)) ∧
        (¬ (s6 39 3 = x2) →
          (x3 ≤ x1 →
            Q (some (vI x3)) s6) ∧
          (¬ (x3 ≤ x1) →
            ∃ T : Option AV → AS → Prop, am_M Ln d 65 [vR 39, vI 3, vI x2] s6 T ∧ ∀ s10, T none s10 →
            Q (some (vI x3)) s10))) ∧
      (¬ (r7 = 0) →
        (w32 (s6 39 3 - x2) < 6 →
          ∃ T : Option AV → AS → Prop, am_M Ln d 66 [vR 39] s6 T ∧ ∀ (r12 : Int) s11, T (some (vI r12)) s11 →
          am_E Ln d 62 7 [vR 39, vI x1, vI x2, vI (w32 (w32 (w32 (10 * x3) + r12) - 48))] [] (am_up s11 39 3 (w32 (s11 39 3 + 1))) Q) ∧
        (¬ (w32 (s6 39 3 - x2) < 6) →
          ∃ T : Option AV → AS → Prop, am_M Ln d 65 [vR 39, vI 2, vI (s6 39 3)] s6 T ∧ ∀ s13, T none s13 →
          ∃ T : Option AV → AS → Prop, am_M Ln d 66 [vR 39] s13 T ∧ ∀ (r15 : Int) s14, T (some (vI r15)) s14 →
          am_E Ln d 62 7 [vR 39, vI x1, vI x2, vI (w32 (w32 (w32 (10 * x3) + r15) - 48))] [] (am_up s14 39 3 (w32 (s14 39 3 + 1))) Q)))) ∧
  (¬ (σ 39 4 = 0) →
    (σ 39 3 = x2 →
      ∃ T : Option AV → AS → Prop, am_M Ln d 65 [vR 39, vI 1, vI (σ 39 3)] σ T ∧ ∀ s16, T none s16 →
      (x3 ≤ x1 →
        Q (some (vI x3)) s16) ∧
      (¬ (x3 ≤ x1) →
        ∃ T : Option AV → AS → Prop, am_M Ln d 65 [vR 39, vI 3, vI x2] s16 T ∧ ∀ s17, T none s17 →
        Q (some (vI x3)) s17)) ∧
    (¬ (σ 39 3 = x2) →
      (x3 ≤ x1 →
        Q (some (vI x3)) σ) ∧
      (¬ (x3 ≤ x1) →
        ∃ T : Option AV → AS → Prop, am_M Ln d 65 [vR 39, vI 3, vI x2] σ T ∧ ∀ s18, T none s18 →
        Q (some (vI x3)) s18)))) : am_E Ln d 62 7 [vR 39, vI x1, vI x2, vI x3] [] σ Q :=
  am_vc_E (d := d) (m := 62) (cut := [(7, [true, true, true, true])]) 39 7 [vR 39, vI x1, vI x2, vI x3] [] σ h
set_option maxRecDepth 100000 in
theorem vm_X8_mayOpen {Ln : Int} {d : Nat} {Q : Option AV → AS → Prop} (σ : AS) (a1 : Int) (h :
  (a1 < 6 →
    am_b 1 ∧ Q (some (vI 1)) (am_up σ 39 3 (w32 (σ 39 3 + 1)))) ∧
  (¬ (a1 < 6) →
    ∃ T : Option AV → AS → Prop, am_M Ln d 65 [vR 39, vI 5, vI (σ 39 3)] σ T ∧ ∀ s1, T none s1 →
    am_b 0 ∧ Q (some (vI 0)) s1)) : am_M Ln (d + 1) 63 [vR 39, vI a1] σ Q :=
  am_vc_E (d := d) (m := 63) (cut := []) 11 0 (am_entry 63 [vR 39, vI a1]) [] σ h
set_option maxRecDepth 100000 in
theorem vm_X8_pass {Ln : Int} {d : Nat} {Q : Option AV → AS → Prop} (σ : AS) (a1 : Int) (h :
  ∃ T : Option AV → AS → Prop, am_M Ln d 66 [vR 39] σ T ∧ ∀ (r2 : Int) s1, T (some (vI r2)) s1 →
  (r2 = a1 →
    Q none (am_up s1 39 3 (w32 (s1 39 3 + 1)))) ∧
  (¬ (r2 = a1) →
    ∃ T : Option AV → AS → Prop, am_M Ln d 65 [vR 39, vI 1, vI (s1 39 3)] s1 T ∧ ∀ s3, T none s3 →
    Q none (am_up s3 39 3 (w32 (s3 39 3 + 1))))) : am_M Ln (d + 1) 64 [vR 39, vI a1] σ Q :=
  am_vc_E (d := d) (m := 64) (cut := []) 16 0 (am_entry 64 [vR 39, vI a1]) [] σ h
set_option maxRecDepth 100000 in
theorem vm_X8_fail {Ln : Int} {d : Nat} {Q : Option AV → AS → Prop} (σ : AS) (a1 a2 : Int) (h :
  (σ 39 4 = 0 →
    Q none (am_up (am_up σ 39 4 a1) 39 5 a2)) ∧
  (¬ (σ 39 4 = 0) →
    Q none σ)) : am_M Ln (d + 1) 65 [vR 39, vI a1, vI a2] σ Q :=
  am_vc_E (d := d) (m := 65) (cut := []) 10 0 (am_entry 65 [vR 39, vI a1, vI a2]) [] σ h
set_option maxRecDepth 100000 in
theorem vm_X8_peek {Ln : Int} {d : Nat} {Q : Option AV → AS → Prop} (σ : AS) (h :
  (σ 39 2 ≤ σ 39 3 →
    Q (some (vI (-1))) σ) ∧
  (¬ (σ 39 2 ≤ σ 39 3) →
    ∃ T : Option AV → AS → Prop, am_M Ln d 90 [vR 2, vI (σ 39 3)] σ T ∧ ∀ (r2 : Int) s1, T (some (vI r2)) s1 →
    Q (some (vI r2)) s1)) : am_M Ln (d + 1) 66 [vR 39] σ Q :=
  am_vc_E (d := d) (m := 66) (cut := []) 12 0 (am_entry 66 [vR 39]) [] σ h
set_option maxRecDepth 100000 in
theorem vm_X8_emit {Ln : Int} {d : Nat} {Q : Option AV → AS → Prop} (σ : AS) (a1 a2 : Int) (h :
  (160 ≤ σ 39 7 →
    Q (some (vI (w32 (σ 39 7 - 1)))) σ) ∧
  (¬ (160 ≤ σ 39 7) →
    (0 ≤ w32 (σ 39 6 + (σ 39 7)) ∧ w32 (σ 39 6 + (σ 39 7)) < 3200) ∧ (Q (some (vI (w32 (w32 (σ 39 7 + 1) - 1)))) (am_up (am_up σ 35 (w32 (σ 39 6 + (σ 39 7))) (bOr (bShl a2 4) a1)) 39 7 (w32 (σ 39 7 + 1)))))) : am_M Ln (d + 1) 67 [vR 39, vI a1, vI a2] σ Q :=
  am_vc_E (d := d) (m := 67) (cut := []) 29 0 (am_entry 67 [vR 39, vI a1, vI a2]) [] σ h
set_option maxRecDepth 100000 in
theorem vm_X8_aim {Ln : Int} {d : Nat} {Q : Option AV → AS → Prop} (σ : AS) (a1 a2 : Int) (h :
  (a1 < 0 →
    Q none σ) ∧
  (¬ (a1 < 0) →
    (σ 39 7 ≤ a1 →
      Q none σ) ∧
    (¬ (σ 39 7 ≤ a1) →
      (0 ≤ w32 (σ 39 6 + a1) ∧ w32 (σ 39 6 + a1) < 3200) ∧ (Q none (am_up σ 35 (w32 (σ 39 6 + a1)) (bOr (bShl (w32 (σ 39 6 + (σ 39 7))) 4) a2)))))) : am_M Ln (d + 1) 68 [vR 39, vI a1, vI a2] σ Q :=
  am_vc_E (d := d) (m := 68) (cut := []) 24 0 (am_entry 68 [vR 39, vI a1, vI a2]) [] σ h
set_option maxRecDepth 100000 in
theorem vm_X8_isDigit {Ln : Int} {d : Nat} {Q : Option AV → AS → Prop} (σ : AS) (a1 : Int) (h :
  (a1 < 48 →
    am_b 0 ∧ Q (some (vI 0)) σ) ∧
  (¬ (a1 < 48) →
    (57 < a1 →
      am_b 0 ∧ Q (some (vI 0)) σ) ∧
    (¬ (57 < a1) →
      am_b 1 ∧ Q (some (vI 1)) σ))) : am_M Ln (d + 1) 69 [vI a1] σ Q :=
  am_vc_E (d := d) (m := 69) (cut := []) 9 0 (am_entry 69 [vI a1]) [] σ h
set_option maxRecDepth 100000 in
theorem vm_X8_comparison {Ln : Int} {d : Nat} {Q : Option AV → AS → Prop} (σ : AS) (a1 : Int) (h :
  (a1 = 60 →
    Q (some (vI 10)) σ) ∧
  (a1 = 60 + 1 →
    Q (some (vI 12)) σ) ∧
  (a1 = 60 + 1 + 1 →
    Q (some (vI 11)) σ) ∧
  (a1 < 60 ∨ 62 < a1 →
    Q (some (vI (-1))) σ) ∧ True) : am_M Ln (d + 1) 70 [vI a1] σ Q :=
  am_vc_E (d := d) (m := 70) (cut := []) 4 0 (am_entry 70 [vI a1]) [] σ h
set_option maxRecDepth 100000 in
theorem vm_X8_multiplication {Ln : Int} {d : Nat} {Q : Option AV → AS → Prop} (σ : AS) (a1 : Int) (h :
  (a1 = 37 →
    Q (some (vI 9)) σ) ∧
  (a1 = 42 →
    Q (some (vI 7)) σ) ∧
  (a1 = 47 →
    Q (some (vI 8)) σ) ∧
  (am_ne a1 [(37, 41), (42, 35), (47, 38)] →
    Q (some (vI (-1))) σ) ∧ True) : am_M Ln (d + 1) 71 [vI a1] σ Q :=
  am_vc_E (d := d) (m := 71) (cut := []) 4 0 (am_entry 71 [vI a1]) [] σ h
set_option maxRecDepth 100000 in
theorem vm_X8_fact {Ln : Int} {d : Nat} {Q : Option AV → AS → Prop} (σ : AS) (a1 : Int) (h :
  (a1 = 100 →
    Q (some (vI 1)) σ) ∧
  (a1 = 100 + 1 →
    Q (some (vI (-1))) σ) ∧
  (a1 = 100 + 1 + 1 →
    Q (some (vI (-1))) σ) ∧
  (a1 = 100 + 1 + 1 + 1 →
    Q (some (vI (-1))) σ) ∧
  (a1 = 100 + 1 + 1 + 1 + 1 →
    Q (some (vI 4)) σ) ∧
  (a1 = 100 + 1 + 1 + 1 + 1 + 1 →
    Q (some (vI (-1))) σ) ∧
  (a1 = 100 + 1 + 1 + 1 + 1 + 1 + 1 →
    Q (some (vI (-1))) σ) ∧
  (a1 = 100 + 1 + 1 + 1 + 1 + 1 + 1 + 1 →
    Q (some (vI 2)) σ) ∧
  (a1 = 100 + 1 + 1 + 1 + 1 + 1 + 1 + 1 + 1 →
    Q (some (vI (-1))) σ) ∧
  (a1 = 100 + 1 + 1 + 1 + 1 + 1 + 1 + 1 + 1 + 1 →
    Q (some (vI (-1))) σ) ∧
  (a1 = 100 + 1 + 1 + 1 + 1 + 1 + 1 + 1 + 1 + 1 + 1 →
    Q (some (vI 7)) σ) ∧
  (a1 = 100 + 1 + 1 + 1 + 1 + 1 + 1 + 1 + 1 + 1 + 1 + 1 →
    Q (some (vI 6)) σ) ∧
  (a1 = 100 + 1 + 1 + 1 + 1 + 1 + 1 + 1 + 1 + 1 + 1 + 1 + 1 →
    Q (some (vI 3)) σ) ∧
  (a1 = 100 + 1 + 1 + 1 + 1 + 1 + 1 + 1 + 1 + 1 + 1 + 1 + 1 + 1 →
    Q (some (vI (-1))) σ) ∧
  (a1 = 100 + 1 + 1 + 1 + 1 + 1 + 1 + 1 + 1 + 1 + 1 + 1 + 1 + 1 + 1 →
    Q (some (vI (-1))) σ) ∧
  (a1 = 100 + 1 + 1 + 1 + 1 + 1 + 1 + 1 + 1 + 1 + 1 + 1 + 1 + 1 + 1 + 1 →
    Q (some (vI 0)) σ) ∧
  (a1 = 100 + 1 + 1 + 1 + 1 + 1 + 1 + 1 + 1 + 1 + 1 + 1 + 1 + 1 + 1 + 1 + 1 →
    Q (some (vI 5)) σ) ∧
  (a1 < 100 ∨ 116 < a1 →
    Q (some (vI (-1))) σ) ∧ True) : am_M Ln (d + 1) 72 [vI a1] σ Q :=
  am_vc_E (d := d) (m := 72) (cut := []) 4 0 (am_entry 72 [vI a1]) [] σ h
set_option maxRecDepth 100000 in
theorem vm_X9_clear {Ln : Int} {d : Nat} {Q : Option AV → AS → Prop} (σ : AS) (h :
  ∃ T : Option AV → AS → Prop, am_M Ln d 245 [vR 45, vI (-1)] (am_up σ 41 3 0) T ∧ ∀ s1, T none s1 →
  ∃ T : Option AV → AS → Prop, am_M Ln d 245 [vR 46, vI 0] s1 T ∧ ∀ s2, T none s2 →
  ∃ T : Option AV → AS → Prop, am_M Ln d 245 [vR 47, vI 0] s2 T ∧ ∀ s3, T none s3 →
  ∃ T : Option AV → AS → Prop, am_M Ln d 75 [vR 41] s3 T ∧ ∀ s4, T none s4 →
  Q none s4) : am_M Ln (d + 1) 73 [vR 41] σ Q :=
  am_vc_E (d := d) (m := 73) (cut := []) 18 0 (am_entry 73 [vR 41]) [] σ h
set_option maxRecDepth 100000 in
theorem vm_b_X9_copyFrom {Ln : Int} {d : Nat} {Q : Option AV → AS → Prop} (σ : AS) (h :
  (0 ≤ (0 : Int) ∧ 0 ≤ (0 : Int) ∧ 0 ≤ min (σ 53 3) (1010 : Int) ∧ (0 : Int) + (min (σ 53 3) (1010 : Int)) ≤ 1010 ∧ (0 : Int) + (min (σ 53 3) (1010 : Int)) ≤ 1010) ∧ ((0 ≤ (0 : Int) ∧ 0 ≤ (0 : Int) ∧ 0 ≤ (am_cpy (am_up σ 41 3 (min (σ 53 3) (1010 : Int))) 54 42 0 0 (min (σ 53 3) (1010 : Int))) 41 3 ∧ (0 : Int) + ((am_cpy (am_up σ 41 3 (min (σ 53 3) (1010 : Int))) 54 42 0 0 (min (σ 53 3) (1010 : Int))) 41 3) ≤ 1010 ∧ (0 : Int) + ((am_cpy (am_up σ 41 3 (min (σ 53 3) (1010 : Int))) 54 42 0 0 (min (σ 53 3) (1010 : Int))) 41 3) ≤ 1010) ∧ ((0 ≤ (0 : Int) ∧ 0 ≤ (0 : Int) ∧ 0 ≤ (am_cpy (am_cpy (am_up σ 41 3 (min (σ 53 3) (1010 : Int))) 54 42 0 0 (min (σ 53 3) (1010 : Int))) 55 43 0 0 ((am_cpy (am_up σ 41 3 (min (σ 53 3) (1010 : Int))) 54 42 0 0 (min (σ 53 3) (1010 : Int))) 41 3)) 41 3 ∧ (0 : Int) + ((am_cpy (am_cpy (am_up σ 41 3 (min (σ 53 3) (1010 : Int))) 54 42 0 0 (min (σ 53 3) (1010 : Int))) 55 43 0 0 ((am_cpy (am_up σ 41 3 (min (σ 53 3) (1010 : Int))) 54 42 0 0 (min (σ 53 3) (1010 : Int))) 41 3)) 41 3) ≤ 1010 ∧ (0 : Int) + ((am_cpy (am_cpy (am_up σ 41 3 (min (σ 53 3) (1010 : Int))) 54 42 0 0 (min (σ 53 3) (1010 : Int))) 55 43 0 0 ((am_cpy (am_up σ 41 3 (min (σ 53 3) (1010 : Int))) 54 42 0 0 (min (σ 53 3) (1010 : Int))) 41 3)) 41 3) ≤ 1010) ∧ ((0 ≤ (0 : Int) ∧ 0 ≤ (0 : Int) ∧ 0 ≤ (10 : Int) ∧ (0 : Int) + 10 ≤ 10 ∧ (0 : Int) + 10 ≤ 10) ∧ ((0 ≤ (0 : Int) ∧ 0 ≤ (0 : Int) ∧ 0 ≤ (100 : Int) ∧ (0 : Int) + 100 ≤ 100 ∧ (0 : Int) + 100 ≤ 100) ∧ ((0 ≤ (0 : Int) ∧ 0 ≤ (0 : Int) ∧ 0 ≤ (100 : Int) ∧ (0 : Int) + 100 ≤ 100 ∧ (0 : Int) + 100 ≤ 100) ∧ (Q none (am_cpy (am_cpy (am_cpy (am_cpy (am_cpy (am_cpy (am_up σ 41 3 (min (σ 53 3) (1010 : Int))) 54 42 0 0 (min (σ 53 3) (1010 : Int))) 55 43 0 0 ((am_cpy (am_up σ 41 3 (min (σ 53 3) (1010 : Int))) 54 42 0 0 (min (σ 53 3) (1010 : Int))) 41 3)) 56 44 0 0 ((am_cpy (am_cpy (am_up σ 41 3 (min (σ 53 3) (1010 : Int))) 54 42 0 0 (min (σ 53 3) (1010 : Int))) 55 43 0 0 ((am_cpy (am_up σ 41 3 (min (σ 53 3) (1010 : Int))) 54 42 0 0 (min (σ 53 3) (1010 : Int))) 41 3)) 41 3)) 57 45 0 0 10) 58 46 0 0 100) 59 47 0 0 100)))))))) : am_M Ln (d + 1) 74 [vR 41, vR 53] σ Q :=
  am_vc_E (d := d) (m := 74) (cut := []) 64 0 (am_entry 74 [vR 41, vR 53]) [] σ h
set_option maxRecDepth 100000 in
theorem vm_k_X9_copyFrom {Ln : Int} {d : Nat} {Q : Option AV → AS → Prop} (σ : AS) (h :
  (0 ≤ (0 : Int) ∧ 0 ≤ (0 : Int) ∧ 0 ≤ min (σ 41 3) (1010 : Int) ∧ (0 : Int) + (min (σ 41 3) (1010 : Int)) ≤ 1010 ∧ (0 : Int) + (min (σ 41 3) (1010 : Int)) ≤ 1010) ∧ ((0 ≤ (0 : Int) ∧ 0 ≤ (0 : Int) ∧ 0 ≤ (am_cpy (am_up σ 53 3 (min (σ 41 3) (1010 : Int))) 42 54 0 0 (min (σ 41 3) (1010 : Int))) 53 3 ∧ (0 : Int) + ((am_cpy (am_up σ 53 3 (min (σ 41 3) (1010 : Int))) 42 54 0 0 (min (σ 41 3) (1010 : Int))) 53 3) ≤ 1010 ∧ (0 : Int) + ((am_cpy (am_up σ 53 3 (min (σ 41 3) (1010 : Int))) 42 54 0 0 (min (σ 41 3) (1010 : Int))) 53 3) ≤ 1010) ∧ ((0 ≤ (0 : Int) ∧ 0 ≤ (0 : Int) ∧ 0 ≤ (am_cpy (am_cpy (am_up σ 53 3 (min (σ 41 3) (1010 : Int))) 42 54 0 0 (min (σ 41 3) (1010 : Int))) 43 55 0 0 ((am_cpy (am_up σ 53 3 (min (σ 41 3) (1010 : Int))) 42 54 0 0 (min (σ 41 3) (1010 : Int))) 53 3)) 53 3 ∧ (0 : Int) + ((am_cpy (am_cpy (am_up σ 53 3 (min (σ 41 3) (1010 : Int))) 42 54 0 0 (min (σ 41 3) (1010 : Int))) 43 55 0 0 ((am_cpy (am_up σ 53 3 (min (σ 41 3) (1010 : Int))) 42 54 0 0 (min (σ 41 3) (1010 : Int))) 53 3)) 53 3) ≤ 1010 ∧ (0 : Int) + ((am_cpy (am_cpy (am_up σ 53 3 (min (σ 41 3) (1010 : Int))) 42 54 0 0 (min (σ 41 3) (1010 : Int))) 43 55 0 0 ((am_cpy (am_up σ 53 3 (min (σ 41 3) (1010 : Int))) 42 54 0 0 (min (σ 41 3) (1010 : Int))) 53 3)) 53 3) ≤ 1010) ∧ ((0 ≤ (0 : Int) ∧ 0 ≤ (0 : Int) ∧ 0 ≤ (10 : Int) ∧ (0 : Int) + 10 ≤ 10 ∧ (0 : Int) + 10 ≤ 10) ∧ ((0 ≤ (0 : Int) ∧ 0 ≤ (0 : Int) ∧ 0 ≤ (100 : Int) ∧ (0 : Int) + 100 ≤ 100 ∧ (0 : Int) + 100 ≤ 100) ∧ ((0 ≤ (0 : Int) ∧ 0 ≤ (0 : Int) ∧ 0 ≤ (100 : Int) ∧ (0 : Int) + 100 ≤ 100 ∧ (0 : Int) + 100 ≤ 100) ∧ (Q none (am_cpy (am_cpy (am_cpy (am_cpy (am_cpy (am_cpy (am_up σ 53 3 (min (σ 41 3) (1010 : Int))) 42 54 0 0 (min (σ 41 3) (1010 : Int))) 43 55 0 0 ((am_cpy (am_up σ 53 3 (min (σ 41 3) (1010 : Int))) 42 54 0 0 (min (σ 41 3) (1010 : Int))) 53 3)) 44 56 0 0 ((am_cpy (am_cpy (am_up σ 53 3 (min (σ 41 3) (1010 : Int))) 42 54 0 0 (min (σ 41 3) (1010 : Int))) 43 55 0 0 ((am_cpy (am_up σ 53 3 (min (σ 41 3) (1010 : Int))) 42 54 0 0 (min (σ 41 3) (1010 : Int))) 53 3)) 53 3)) 45 57 0 0 10) 46 58 0 0 100) 47 59 0 0 100)))))))) : am_M Ln (d + 1) 74 [vR 53, vR 41] σ Q :=
  am_vc_E (d := d) (m := 74) (cut := []) 64 0 (am_entry 74 [vR 53, vR 41]) [] σ h
set_option maxRecDepth 100000 in
theorem vm_X9_forgetTaken {Ln : Int} {d : Nat} {Q : Option AV → AS → Prop} (σ : AS) (h :
  ∃ T : Option AV → AS → Prop, am_M Ln d 245 [vR 50, vI 0] (am_up σ 41 9 0) T ∧ ∀ s1, T none s1 →
  Q none s1) : am_M Ln (d + 1) 75 [vR 41] σ Q :=
  am_vc_E (d := d) (m := 75) (cut := []) 8 0 (am_entry 75 [vR 41]) [] σ h
set_option maxRecDepth 100000 in
theorem vm_X9_put {Ln : Int} {d : Nat} {Q : Option AV → AS → Prop} (σ : AS) (a1 a2 a3 : Int) (h :
  (0 < a3 →
    (0 ≤ a1 ∧ a1 < 10) ∧ ((σ 45 a1 < 0 →
      (1010 ≤ σ 41 3 →
        Q none σ) ∧
      (¬ (1010 ≤ σ 41 3) →
        (0 ≤ σ 41 3 ∧ σ 41 3 < 1010) ∧ ((0 ≤ σ 41 3 ∧ σ 41 3 < 1010) ∧ ((0 ≤ σ 41 3 ∧ σ 41 3 < 1010) ∧ ((0 ≤ a1 ∧ a1 < 10) ∧ (Q none (am_up (am_up (am_up (am_up (am_up σ 42 (σ 41 3) a1) 43 (σ 41 3) a2) 44 (σ 41 3) a3) 45 a1 (σ 41 3)) 41 3 (w32 (σ 41 3 + 1))))))))) ∧
    (¬ (σ 45 a1 < 0) →
      (0 ≤ σ 45 a1 ∧ σ 45 a1 < 1010) ∧ ((σ 43 (σ 45 a1) = a2 →
        (0 ≤ σ 45 a1 ∧ σ 45 a1 < 1010) ∧ ((0 ≤ σ 45 a1 ∧ σ 45 a1 < 1010) ∧ (Q none (am_up σ 44 (σ 45 a1) (w32 (σ 44 (σ 45 a1) + a3)))))) ∧
      (¬ (σ 43 (σ 45 a1) = a2) →
        (1010 ≤ σ 41 3 →
          Q none σ) ∧
        (¬ (1010 ≤ σ 41 3) →
          (0 ≤ σ 41 3 ∧ σ 41 3 < 1010) ∧ ((0 ≤ σ 41 3 ∧ σ 41 3 < 1010) ∧ ((0 ≤ σ 41 3 ∧ σ 41 3 < 1010) ∧ ((0 ≤ a1 ∧ a1 < 10) ∧ (Q none (am_up (am_up (am_up (am_up (am_up σ 42 (σ 41 3) a1) 43 (σ 41 3) a2) 44 (σ 41 3) a3) 45 a1 (σ 41 3)) 41 3 (w32 (σ 41 3 + 1))))))))))))) ∧
  (¬ (0 < a3) →
    Q none σ)) : am_M Ln (d + 1) 76 [vR 41, vI a1, vI a2, vI a3] σ Q :=
  am_vc_E (d := d) (m := 76) (cut := []) 50 0 (am_entry 76 [vR 41, vI a1, vI a2, vI a3]) [] σ h
set_option maxRecDepth 100000 in
theorem vm_X9_receive {Ln : Int} {d : Nat} {Q : Option AV → AS → Prop} (σ : AS) (a1 a2 a3 : Int) (h :
  ∃ T : Option AV → AS → Prop, am_M Ln d 76 [vR 41, vI a1, vI a2, vI a3] σ T ∧ ∀ s1, T none s1 →
  (0 ≤ a2 ∧ a2 < 10) ∧ ((0 ≤ a2 ∧ a2 < 10) ∧ (Q none (am_up s1 50 a2 (w32 (s1 50 a2 + a3)))))) : am_M Ln (d + 1) 77 [vR 41, vI a1, vI a2, vI a3] σ Q :=
  am_vc_E (d := d) (m := 77) (cut := []) 14 0 (am_entry 77 [vR 41, vI a1, vI a2, vI a3]) [] σ h
set_option maxRecDepth 100000 in
theorem vm_X9_takeOut {Ln : Int} {d : Nat} {Q : Option AV → AS → Prop} (σ : AS) (a1 a2 a3 a4 : Int) (h :
  (a3 = 1 →
    ∃ T : Option AV → AS → Prop, am_M Ln d 79 [vR 41, vI a1, vI a2] σ T ∧ ∀ s1, T none s1 →
    ∃ T : Option AV → AS → Prop, am_M Ln d 83 [vR 41] s1 T ∧ ∀ s2, T none s2 →
    Q none s2) ∧
  (¬ (a3 = 1) →
    (a3 = 2 →
      ∃ T : Option AV → AS → Prop, am_M Ln d 84 [vR 41, vI a1] σ T ∧ ∀ (r4 : Int) s3, T (some (vI r4)) s3 →
      ∃ T : Option AV → AS → Prop, am_M Ln d 133 [vI a2, vR 51, vR 52] s3 T ∧ ∀ s5, T none s5 →
      am_E Ln d 78 40 [vR 41, vI a1, vU, vU, vU, vI 0] [] s5 Q) ∧
    (¬ (a3 = 2) →
      (a3 = 3 →
        ∃ T : Option AV → AS → Prop, am_M Ln d 80 [vR 41, vI a1, vI a4, vI a2] σ T ∧ ∀ (r7 : Int) s6, T (some (vI r7)) s6 →
        ∃ T : Option AV → AS → Prop, am_M Ln d 81 [vR 41, vI a1, vI a4, vI r7] s6 T ∧ ∀ (r9 : Int) s8, T (some (vI r9)) s8 →
        ∃ T : Option AV → AS → Prop, am_M Ln d 83 [vR 41] s8 T ∧ ∀ s10, T none s10 →
        Q none s10) ∧
      (¬ (a3 = 3) →
        (a3 = 4 →
          ∃ T : Option AV → AS → Prop, am_M Ln d 81 [vR 41, vI a1, vI a4, vI a2] σ T ∧ ∀ (r12 : Int) s11, T (some (vI r12)) s11 →
          ∃ T : Option AV → AS → Prop, am_M Ln d 80 [vR 41, vI a1, vI a4, vI r12] s11 T ∧ ∀ (r14 : Int) s13, T (some (vI r14)) s13 →
          ∃ T : Option AV → AS → Prop, am_M Ln d 83 [vR 41] s13 T ∧ ∀ s15, T none s15 →
          Q none s15) ∧
        (¬ (a3 = 4) →
          ∃ T : Option AV → AS → Prop, am_M Ln d 81 [vR 41, vI a1, vI (-1), vI a2] σ T ∧ ∀ (r17 : Int) s16, T (some (vI r17)) s16 →
          ∃ T : Option AV → AS → Prop, am_M Ln d 83 [vR 41] s16 T ∧ ∀ s18, T none s18 →
          Q none s18))))) : am_M Ln (d + 1) 78 [vR 41, vI a1, vI a2, vI a3, vI a4] σ Q :=
  am_vc_E (d := d) (m := 78) (cut := [(40, [true, true, false, false, false, true])]) 26 0 (am_entry 78 [vR 41, vI a1, vI a2, vI a3, vI a4]) [] σ h
set_option maxRecDepth 100000 in
theorem vl_X9_takeOut_40 {Ln : Int} {d : Nat} {Q : Option AV → AS → Prop} (σ : AS) (x1 x5 : Int) (h :
  (10 ≤ x5 →
    ∃ T : Option AV → AS → Prop, am_M Ln d 83 [vR 41] σ T ∧ ∀ s1, T none s1 →
    Q none s1) ∧
  (¬ (10 ≤ x5) →
    (0 ≤ x5 ∧ x5 < 10) ∧ (∃ T : Option AV → AS → Prop, am_M Ln d 80 [vR 41, vI x1, vI x5, vI (σ 52 x5)] σ T ∧ ∀ (r3 : Int) s2, T (some (vI r3)) s2 →
    am_E Ln d 78 40 [vR 41, vI x1, vU, vU, vU, vI (w32 (x5 + 1))] [] s2 Q))) : am_E Ln d 78 40 [vR 41, vI x1, vU, vU, vU, vI x5] [] σ Q :=
  am_vc_E (d := d) (m := 78) (cut := [(40, [true, true, false, false, false, true])]) 14 40 [vR 41, vI x1, vU, vU, vU, vI x5] [] σ h
set_option maxRecDepth 100000 in
theorem vm_X9_takeFromLast {Ln : Int} {d : Nat} {Q : Option AV → AS → Prop} (σ : AS) (a1 a2 : Int) (h :
  am_E Ln d 79 10 [vR 41, vI a1, vU, vI a2, vI (w32 (σ 41 3 - 1))] [] σ Q) : am_M Ln (d + 1) 79 [vR 41, vI a1, vI a2] σ Q :=
  am_vc_E (d := d) (m := 79) (cut := [(10, [true, true, false, true, true])]) 7 0 (am_entry 79 [vR 41, vI a1, vI a2]) [] σ h
set_option maxRecDepth 100000 in
theorem vl_X9_takeFromLast_10 {Ln : Int} {d : Nat} {Q : Option AV → AS → Prop} (σ : AS) (x1 x3 x4 : Int) (h :
  (x4 < 0 →
    Q none σ) ∧
  (¬ (x4 < 0) →
    (x3 ≤ 0 →
      Q none σ) ∧
    (¬ (x3 ≤ 0) →
      (0 ≤ x4 ∧ x4 < 1010) ∧ ((σ 42 x4 = x1 →
        ∃ T : Option AV → AS → Prop, am_M Ln d 82 [vR 41, vI x4, vI x3] σ T ∧ ∀ (r2 : Int) s1, T (some (vI r2)) s1 →
        am_E Ln d 79 10 [vR 41, vI x1, vU, vI r2, vI (w32 (x4 + (-1)))] [] s1 Q) ∧
      (¬ (σ 42 x4 = x1) →
        am_E Ln d 79 10 [vR 41, vI x1, vU, vI x3, vI (w32 (x4 + (-1)))] [] σ Q))))) : am_E Ln d 79 10 [vR 41, vI x1, vU, vI x3, vI x4] [] σ Q :=
  am_vc_E (d := d) (m := 79) (cut := [(10, [true, true, false, true, true])]) 17 10 [vR 41, vI x1, vU, vI x3, vI x4] [] σ h
set_option maxRecDepth 100000 in
theorem vm_X9_takeOf {Ln : Int} {d : Nat} {Q : Option AV → AS → Prop} (σ : AS) (a1 a2 a3 : Int) (h :
  am_E Ln d 80 6 [vR 41, vI a1, vI a2, vU, vI a3, vI 0] [] σ Q) : am_M Ln (d + 1) 80 [vR 41, vI a1, vI a2, vI a3] σ Q :=
  am_vc_E (d := d) (m := 80) (cut := [(6, [true, true, true, false, true, true])]) 4 0 (am_entry 80 [vR 41, vI a1, vI a2, vI a3]) [] σ h
set_option maxRecDepth 100000 in
theorem vl_X9_takeOf_6 {Ln : Int} {d : Nat} {Q : Option AV → AS → Prop} (σ : AS) (x1 x2 x4 x5 : Int) (h :
  (σ 41 3 ≤ x5 →
    Q (some (vI x4)) σ) ∧
  (¬ (σ 41 3 ≤ x5) →
    (x4 ≤ 0 →
      Q (some (vI x4)) σ) ∧
    (¬ (x4 ≤ 0) →
      (0 ≤ x5 ∧ x5 < 1010) ∧ ((σ 42 x5 = x1 →
        (0 ≤ x5 ∧ x5 < 1010) ∧ ((σ 43 x5 = x2 →
          ∃ T : Option AV → AS → Prop, am_M Ln d 82 [vR 41, vI x5, vI x4] σ T ∧ ∀ (r2 : Int) s1, T (some (vI r2)) s1 →
          am_E Ln d 80 6 [vR 41, vI x1, vI x2, vU, vI r2, vI (w32 (x5 + 1))] [] s1 Q) ∧
        (¬ (σ 43 x5 = x2) →
          am_E Ln d 80 6 [vR 41, vI x1, vI x2, vU, vI x4, vI (w32 (x5 + 1))] [] σ Q))) ∧
      (¬ (σ 42 x5 = x1) →
        am_E Ln d 80 6 [vR 41, vI x1, vI x2, vU, vI x4, vI (w32 (x5 + 1))] [] σ Q))))) : am_E Ln d 80 6 [vR 41, vI x1, vI x2, vU, vI x4, vI x5] [] σ Q :=
  am_vc_E (d := d) (m := 80) (cut := [(6, [true, true, true, false, true, true])]) 25 6 [vR 41, vI x1, vI x2, vU, vI x4, vI x5] [] σ h
set_option maxRecDepth 100000 in
theorem vm_X9_takeOthers {Ln : Int} {d : Nat} {Q : Option AV → AS → Prop} (σ : AS) (a1 a2 a3 : Int) (h :
  am_E Ln d 81 6 [vR 41, vI a1, vI a2, vU, vI a3, vI 0] [] σ Q) : am_M Ln (d + 1) 81 [vR 41, vI a1, vI a2, vI a3] σ Q :=
  am_vc_E (d := d) (m := 81) (cut := [(6, [true, true, true, false, true, true])]) 4 0 (am_entry 81 [vR 41, vI a1, vI a2, vI a3]) [] σ h
set_option maxRecDepth 100000 in
theorem vl_X9_takeOthers_6 {Ln : Int} {d : Nat} {Q : Option AV → AS → Prop} (σ : AS) (x1 x2 x4 x5 : Int) (h :
  (σ 41 3 ≤ x5 →
    Q (some (vI x4)) σ) ∧
  (¬ (σ 41 3 ≤ x5) →
    (x4 ≤ 0 →
      Q (some (vI x4)) σ) ∧
    (¬ (x4 ≤ 0) →
      (0 ≤ x5 ∧ x5 < 1010) ∧ ((σ 42 x5 = x1 →
        (0 ≤ x5 ∧ x5 < 1010) ∧ ((σ 43 x5 = x2 →
          am_E Ln d 81 6 [vR 41, vI x1, vI x2, vU, vI x4, vI (w32 (x5 + 1))] [] σ Q) ∧
        (¬ (σ 43 x5 = x2) →
          ∃ T : Option AV → AS → Prop, am_M Ln d 82 [vR 41, vI x5, vI x4] σ T ∧ ∀ (r2 : Int) s1, T (some (vI r2)) s1 →
          am_E Ln d 81 6 [vR 41, vI x1, vI x2, vU, vI r2, vI (w32 (x5 + 1))] [] s1 Q))) ∧
      (¬ (σ 42 x5 = x1) →
        am_E Ln d 81 6 [vR 41, vI x1, vI x2, vU, vI x4, vI (w32 (x5 + 1))] [] σ Q))))) : am_E Ln d 81 6 [vR 41, vI x1, vI x2, vU, vI x4, vI x5] [] σ Q :=
  am_vc_E (d := d) (m := 81) (cut := [(6, [true, true, true, false, true, true])]) 25 6 [vR 41, vI x1, vI x2, vU, vI x4, vI x5] [] σ h
set_option maxRecDepth 100000 in
theorem vm_X9_grab {Ln : Int} {d : Nat} {Q : Option AV → AS → Prop} (σ : AS) (a1 a2 : Int) (h :
  (0 ≤ a1 ∧ a1 < 1010) ∧ ((σ 44 a1 ≤ a2 →
    (0 ≤ a1 ∧ a1 < 1010) ∧ ((0 ≤ a1 ∧ a1 < 1010) ∧ ((0 ≤ a1 ∧ a1 < 1010) ∧ ((0 ≤ a1 ∧ a1 < 1010) ∧ ((0 ≤ σ 43 a1 ∧ σ 43 a1 < 10) ∧ ((0 ≤ σ 43 a1 ∧ σ 43 a1 < 10) ∧ ((σ 44 a1 ≤ 0 →
      Q (some (vI (w32 (a2 - (σ 44 a1))))) (am_up (am_up σ 44 a1 (w32 (σ 44 a1 - (σ 44 a1)))) 50 (σ 43 a1) (w32 (σ 50 (σ 43 a1) + (σ 44 a1))))) ∧
    (¬ (σ 44 a1 ≤ 0) →
      (1010 ≤ σ 41 9 →
        Q (some (vI (w32 (a2 - (σ 44 a1))))) (am_up (am_up σ 44 a1 (w32 (σ 44 a1 - (σ 44 a1)))) 50 (σ 43 a1) (w32 (σ 50 (σ 43 a1) + (σ 44 a1))))) ∧
      (¬ (1010 ≤ σ 41 9) →
        (0 ≤ a1 ∧ a1 < 1010) ∧ ((0 ≤ σ 41 9 ∧ σ 41 9 < 1010) ∧ ((0 ≤ σ 41 9 ∧ σ 41 9 < 1010) ∧ (Q (some (vI (w32 (a2 - (σ 44 a1))))) (am_up (am_up (am_up (am_up (am_up σ 44 a1 (w32 (σ 44 a1 - (σ 44 a1)))) 50 (σ 43 a1) (w32 (σ 50 (σ 43 a1) + (σ 44 a1)))) 48 (σ 41 9) (σ 43 a1)) 49 (σ 41 9) (σ 44 a1)) 41 9 (w32 (σ 41 9 + 1))))))))))))))) ∧
  (¬ (σ 44 a1 ≤ a2) →
    (0 ≤ a1 ∧ a1 < 1010) ∧ ((0 ≤ a1 ∧ a1 < 1010) ∧ ((0 ≤ a1 ∧ a1 < 1010) ∧ ((0 ≤ σ 43 a1 ∧ σ 43 a1 < 10) ∧ ((0 ≤ σ 43 a1 ∧ σ 43 a1 < 10) ∧ ((a2 ≤ 0 →
      Q (some (vI (w32 (a2 - a2)))) (am_up (am_up σ 44 a1 (w32 (σ 44 a1 - a2))) 50 (σ 43 a1) (w32 (σ 50 (σ 43 a1) + a2)))) ∧
    (¬ (a2 ≤ 0) →
      (1010 ≤ σ 41 9 →
        Q (some (vI (w32 (a2 - a2)))) (am_up (am_up σ 44 a1 (w32 (σ 44 a1 - a2))) 50 (σ 43 a1) (w32 (σ 50 (σ 43 a1) + a2)))) ∧
      (¬ (1010 ≤ σ 41 9) →
        (0 ≤ a1 ∧ a1 < 1010) ∧ ((0 ≤ σ 41 9 ∧ σ 41 9 < 1010) ∧ ((0 ≤ σ 41 9 ∧ σ 41 9 < 1010) ∧ (Q (some (vI (w32 (a2 - a2)))) (am_up (am_up (am_up (am_up (am_up σ 44 a1 (w32 (σ 44 a1 - a2))) 50 (σ 43 a1) (w32 (σ 50 (σ 43 a1) + a2))) 48 (σ 41 9) (σ 43 a1)) 49 (σ 41 9) a2) 41 9 (w32 (σ 41 9 + 1)))))))))))))))) : am_M Ln (d + 1) 82 [vR 41, vI a1, vI a2] σ Q :=
  am_vc_E (d := d) (m := 82) (cut := []) 61 0 (am_entry 82 [vR 41, vI a1, vI a2]) [] σ h
set_option maxRecDepth 100000 in
theorem vm_X9_tidy {Ln : Int} {d : Nat} {Q : Option AV → AS → Prop} (σ : AS) (h :
  ∃ T : Option AV → AS → Prop, am_M Ln d 245 [vR 45, vI (-1)] (am_up σ 41 3 0) T ∧ ∀ s1, T none s1 →
  am_E Ln d 83 20 [vR 41, vI (σ 41 3), vI 0] [] s1 Q) : am_M Ln (d + 1) 83 [vR 41] σ Q :=
  am_vc_E (d := d) (m := 83) (cut := [(20, [true, true, true])]) 12 0 (am_entry 83 [vR 41]) [] σ h
set_option maxRecDepth 100000 in
theorem vl_X9_tidy_20 {Ln : Int} {d : Nat} {Q : Option AV → AS → Prop} (σ : AS) (x1 x2 : Int) (h :
  (x1 ≤ x2 →
    Q none σ) ∧
  (¬ (x1 ≤ x2) →
    (0 ≤ x2 ∧ x2 < 1010) ∧ ((0 ≤ x2 ∧ x2 < 1010) ∧ ((0 ≤ x2 ∧ x2 < 1010) ∧ (∃ T : Option AV → AS → Prop, am_M Ln d 76 [vR 41, vI (σ 42 x2), vI (σ 43 x2), vI (σ 44 x2)] σ T ∧ ∀ s1, T none s1 →
    am_E Ln d 83 20 [vR 41, vI x1, vI (w32 (x2 + 1))] [] s1 Q))))) : am_E Ln d 83 20 [vR 41, vI x1, vI x2] [] σ Q :=
  am_vc_E (d := d) (m := 83) (cut := [(20, [true, true, true])]) 19 20 [vR 41, vI x1, vI x2] [] σ h
set_option maxRecDepth 100000 in
theorem vm_X9_measure {Ln : Int} {d : Nat} {Q : Option AV → AS → Prop} (σ : AS) (a1 : Int) (h :
  ∃ T : Option AV → AS → Prop, am_M Ln d 245 [vR 51, vI 0] σ T ∧ ∀ s1, T none s1 →
  am_E Ln d 84 12 [vR 41, vI a1, vI 0, vI 0] [] s1 Q) : am_M Ln (d + 1) 84 [vR 41, vI a1] σ Q :=
  am_vc_E (d := d) (m := 84) (cut := [(12, [true, true, true, true])]) 8 0 (am_entry 84 [vR 41, vI a1]) [] σ h
set_option maxRecDepth 100000 in
theorem vl_X9_measure_12 {Ln : Int} {d : Nat} {Q : Option AV → AS → Prop} (σ : AS) (x1 x2 x3 : Int) (h :
  (σ 41 3 ≤ x3 →
    Q (some (vI x2)) σ) ∧
  (¬ (σ 41 3 ≤ x3) →
    (0 ≤ x3 ∧ x3 < 1010) ∧ ((σ 42 x3 = x1 →
      (0 ≤ x3 ∧ x3 < 1010) ∧ ((0 ≤ σ 43 x3 ∧ σ 43 x3 < 10) ∧ ((0 ≤ x3 ∧ x3 < 1010) ∧ ((0 ≤ σ 43 x3 ∧ σ 43 x3 < 10) ∧ ((0 ≤ x3 ∧ x3 < 1010) ∧ (am_E Ln d 84 12 [vR 41, vI x1, vI (w32 (x2 + (σ 44 x3))), vI (w32 (x3 + 1))] [] (am_up σ 51 (σ 43 x3) (w32 (σ 51 (σ 43 x3) + (σ 44 x3)))) Q)))))) ∧
    (¬ (σ 42 x3 = x1) →
      am_E Ln d 84 12 [vR 41, vI x1, vI x2, vI (w32 (x3 + 1))] [] σ Q)))) : am_E Ln d 84 12 [vR 41, vI x1, vI x2, vI x3] [] σ Q :=
  am_vc_E (d := d) (m := 84) (cut := [(12, [true, true, true, true])]) 33 12 [vR 41, vI x1, vI x2, vI x3] [] σ h
set_option maxRecDepth 100000 in
theorem vm_X9_held {Ln : Int} {d : Nat} {Q : Option AV → AS → Prop} (σ : AS) (a1 a2 : Int) (h :
  ∃ T : Option AV → AS → Prop, am_M Ln d 84 [vR 41, vI a1] σ T ∧ ∀ (r2 : Int) s1, T (some (vI r2)) s1 →
  (a2 < 0 →
    Q (some (vI r2)) s1) ∧
  (¬ (a2 < 0) →
    (10 ≤ a2 →
      Q (some (vI r2)) s1) ∧
    (¬ (10 ≤ a2) →
      (0 ≤ a2 ∧ a2 < 10) ∧ (Q (some (vI (s1 51 a2))) s1)))) : am_M Ln (d + 1) 85 [vR 41, vI a1, vI a2] σ Q :=
  am_vc_E (d := d) (m := 85) (cut := []) 15 0 (am_entry 85 [vR 41, vI a1, vI a2]) [] σ h
set_option maxRecDepth 100000 in
theorem vm_X9_shareOf {Ln : Int} {d : Nat} {Q : Option AV → AS → Prop} (σ : AS) (a1 a2 : Int) (h :
  am_E Ln d 86 5 [vR 41, vI a1, vI a2, vI 0, vI 0] [] σ Q) : am_M Ln (d + 1) 86 [vR 41, vI a1, vI a2] σ Q :=
  am_vc_E (d := d) (m := 86) (cut := [(5, [true, true, true, true, true])]) 4 0 (am_entry 86 [vR 41, vI a1, vI a2]) [] σ h
set_option maxRecDepth 100000 in
theorem vl_X9_shareOf_5 {Ln : Int} {d : Nat} {Q : Option AV → AS → Prop} (σ : AS) (x1 x2 x3 x4 : Int) (h :
  (10 ≤ x4 →
    Q (some (vI x3)) σ) ∧
  (¬ (10 ≤ x4) →
    (x2 = (-1) →
      (0 ≤ w32 (w32 (x1 * 10) + x4) ∧ w32 (w32 (x1 * 10) + x4) < 100) ∧ (am_E Ln d 86 5 [vR 41, vI x1, vI x2, vI (w32 (x3 + (σ 46 (w32 (w32 (x1 * 10) + x4))))), vI (w32 (x4 + 1))] [] σ Q)) ∧
    (¬ (x2 = (-1)) →
      (x2 = x4 →
        (0 ≤ w32 (w32 (x1 * 10) + x4) ∧ w32 (w32 (x1 * 10) + x4) < 100) ∧ (am_E Ln d 86 5 [vR 41, vI x1, vI x2, vI (w32 (x3 + (σ 46 (w32 (w32 (x1 * 10) + x4))))), vI (w32 (x4 + 1))] [] σ Q)) ∧
      (¬ (x2 = x4) →
        am_E Ln d 86 5 [vR 41, vI x1, vI x2, vI x3, vI (w32 (x4 + 1))] [] σ Q)))) : am_E Ln d 86 5 [vR 41, vI x1, vI x2, vI x3, vI x4] [] σ Q :=
  am_vc_E (d := d) (m := 86) (cut := [(5, [true, true, true, true, true])]) 22 5 [vR 41, vI x1, vI x2, vI x3, vI x4] [] σ h
set_option maxRecDepth 100000 in
theorem vm_X9_placeOf {Ln : Int} {d : Nat} {Q : Option AV → AS → Prop} (σ : AS) (a1 a2 : Int) (h :
  am_E Ln d 87 5 [vR 41, vI a1, vI a2, vI 0, vI 0] [] σ Q) : am_M Ln (d + 1) 87 [vR 41, vI a1, vI a2] σ Q :=
  am_vc_E (d := d) (m := 87) (cut := [(5, [true, true, true, true, true])]) 4 0 (am_entry 87 [vR 41, vI a1, vI a2]) [] σ h
set_option maxRecDepth 100000 in
theorem vl_X9_placeOf_5 {Ln : Int} {d : Nat} {Q : Option AV → AS → Prop} (σ : AS) (x1 x2 x3 x4 : Int) (h :
  (σ 41 3 ≤ x4 →
    Q (some (vI (-1))) σ) ∧
  (¬ (σ 41 3 ≤ x4) →
    (0 ≤ x4 ∧ x4 < 1010) ∧ ((σ 42 x4 = x1 →
      (x3 = x2 →
        Q (some (vI x4)) σ) ∧
      (¬ (x3 = x2) →
        am_E Ln d 87 5 [vR 41, vI x1, vI x2, vI (w32 (x3 + 1)), vI (w32 (x4 + 1))] [] σ Q)) ∧
    (¬ (σ 42 x4 = x1) →
      am_E Ln d 87 5 [vR 41, vI x1, vI x2, vI x3, vI (w32 (x4 + 1))] [] σ Q)))) : am_E Ln d 87 5 [vR 41, vI x1, vI x2, vI x3, vI x4] [] σ Q :=
  am_vc_E (d := d) (m := 87) (cut := [(5, [true, true, true, true, true])]) 16 5 [vR 41, vI x1, vI x2, vI x3, vI x4] [] σ h
set_option maxRecDepth 100000 in
theorem vm_X10_hasRoom {Ln : Int} {d : Nat} {Q : Option AV → AS → Prop} (σ : AS) (h :
  (400 < w32 (σ 2 1 + 20) →
    am_b 0 ∧ Q (some (vI 0)) σ) ∧
  (¬ (400 < w32 (σ 2 1 + 20)) →
    am_b 1 ∧ Q (some (vI 1)) σ)) : am_M Ln (d + 1) 88 [vR 2] σ Q :=
  am_vc_E (d := d) (m := 88) (cut := []) 9 0 (am_entry 88 [vR 2]) [] σ h
set_option maxRecDepth 100000 in
theorem vm_X10_append {Ln : Int} {d : Nat} {Q : Option AV → AS → Prop} (σ : AS) (a1 : Int) (h :
  am_E Ln d 89 3 [vR 2, vI a1, vI 24] [] σ Q) : am_M Ln (d + 1) 89 [vR 2, vI a1] σ Q :=
  am_vc_E (d := d) (m := 89) (cut := [(3, [true, true, true])]) 2 0 (am_entry 89 [vR 2, vI a1]) [] σ h
set_option maxRecDepth 100000 in
theorem vl_X10_append_3 {Ln : Int} {d : Nat} {Q : Option AV → AS → Prop} (σ : AS) (x1 x2 : Int) (h :
  (x2 < 0 →
    Q none σ) ∧
  (¬ (x2 < 0) →
    (400 ≤ σ 2 1 →
      Q none σ) ∧
    (¬ (400 ≤ σ 2 1) →
      (0 ≤ σ 2 1 ∧ σ 2 1 < 400) ∧ (am_E Ln d 89 3 [vR 2, vI x1, vI (w32 (x2 + (-8)))] [] (am_up (am_up σ 3 (σ 2 1) (bAnd (bShr x1 x2) 255)) 2 1 (w32 (σ 2 1 + 1))) Q)))) : am_E Ln d 89 3 [vR 2, vI x1, vI x2] [] σ Q :=
  am_vc_E (d := d) (m := 89) (cut := [(3, [true, true, true])]) 24 3 [vR 2, vI x1, vI x2] [] σ h
set_option maxRecDepth 100000 in
theorem vm_X10_byteAt {Ln : Int} {d : Nat} {Q : Option AV → AS → Prop} (σ : AS) (a1 : Int) (h :
  (a1 < 0 →
    Q (some (vI (-1))) σ) ∧
  (¬ (a1 < 0) →
    (σ 2 1 ≤ a1 →
      Q (some (vI (-1))) σ) ∧
    (¬ (σ 2 1 ≤ a1) →
      (0 ≤ a1 ∧ a1 < 400) ∧ (Q (some (vI (σ 3 a1))) σ)))) : am_M Ln (d + 1) 90 [vR 2, vI a1] σ Q :=
  am_vc_E (d := d) (m := 90) (cut := []) 12 0 (am_entry 90 [vR 2, vI a1]) [] σ h
set_option maxRecDepth 100000 in
theorem vm_X10_number {Ln : Int} {d : Nat} {Q : Option AV → AS → Prop} (σ : AS) (a1 : Int) (h :
  (w32 (4 * a1) < 0 →
    Q (some (vI 0)) σ) ∧
  (¬ (w32 (4 * a1) < 0) →
    (w32 (w32 (4 * a1) + 4) ≤ σ 2 1 →
      (0 ≤ w32 (4 * a1) ∧ w32 (4 * a1) < 400) ∧ ((0 ≤ w32 (w32 (4 * a1) + 1) ∧ w32 (w32 (4 * a1) + 1) < 400) ∧ ((0 ≤ w32 (w32 (4 * a1) + 2) ∧ w32 (w32 (4 * a1) + 2) < 400) ∧ ((0 ≤ w32 (w32 (4 * a1) + 3) ∧ w32 (w32 (4 * a1) + 3) < 400) ∧ (Q (some (vI (bOr (bOr (bOr (bShl (σ 3 (w32 (4 * a1))) 24) (bShl (σ 3 (w32 (w32 (4 * a1) + 1))) 16)) (bShl (σ 3 (w32 (w32 (4 * a1) + 2))) 8)) (σ 3 (w32 (w32 (4 * a1) + 3)))))) σ))))) ∧
    (¬ (w32 (w32 (4 * a1) + 4) ≤ σ 2 1) →
      Q (some (vI 0)) σ))) : am_M Ln (d + 1) 91 [vR 2, vI a1] σ Q :=
  am_vc_E (d := d) (m := 91) (cut := []) 44 0 (am_entry 91 [vR 2, vI a1]) [] σ h
set_option maxRecDepth 100000 in
theorem vm_X11_now {Ln : Int} {d : Nat} {Q : Option AV → AS → Prop} (σ : AS) (a1 : Int) (h :
  ∃ T : Option AV → AS → Prop, am_M Ln d 130 [vI a1] σ T ∧ ∀ (r2 : Int) s1, T (some (vI r2)) s1 →
  (r2 = 0 →
    am_b 0 ∧ Q (some (vI 0)) s1) ∧
  (¬ (r2 = 0) →
    (s1 1 10 ≤ a1 →
      am_b 1 ∧ Q (some (vI 1)) (am_up s1 1 10 a1)) ∧
    (¬ (s1 1 10 ≤ a1) →
      am_b 0 ∧ Q (some (vI 0)) s1))) : am_M Ln (d + 1) 92 [vR 1, vI a1] σ Q :=
  am_vc_E (d := d) (m := 92) (cut := []) 12 0 (am_entry 92 [vR 1, vI a1]) [] σ h
set_option maxRecDepth 100000 in
theorem vm_X11_person {Ln : Int} {d : Nat} {Q : Option AV → AS → Prop} (σ : AS) (h :
  (σ 1 11 < 10 →
    Q (some (vI (w32 (w32 (σ 1 11 + 1) - 1)))) (am_up σ 1 11 (w32 (σ 1 11 + 1)))) ∧
  (¬ (σ 1 11 < 10) →
    Q (some (vI (-1))) σ)) : am_M Ln (d + 1) 93 [vR 1] σ Q :=
  am_vc_E (d := d) (m := 93) (cut := []) 15 0 (am_entry 93 [vR 1]) [] σ h
set_option maxRecDepth 100000 in
theorem vm_X11_purse {Ln : Int} {d : Nat} {Q : Option AV → AS → Prop} (σ : AS) (a1 a2 : Int) (h :
  ∃ T : Option AV → AS → Prop, am_M Ln d 125 [vR 1, vI a1] σ T ∧ ∀ (r2 : Int) s1, T (some (vI r2)) s1 →
  (r2 = 0 →
    Q (some (vI (-1))) s1) ∧
  (¬ (r2 = 0) →
    (a2 < 0 →
      Q (some (vI (-1))) s1) ∧
    (¬ (a2 < 0) →
      (a2 < 4 →
        ∃ T : Option AV → AS → Prop, am_M Ln d 30 [vR 4, vI a1, vI a2] s1 T ∧ ∀ (r4 : Int) s3, T (some (vI r4)) s3 →
        Q (some (vI r4)) s3) ∧
      (¬ (a2 < 4) →
        Q (some (vI (-1))) s1)))) : am_M Ln (d + 1) 94 [vR 1, vI a1, vI a2] σ Q :=
  am_vc_E (d := d) (m := 94) (cut := []) 15 0 (am_entry 94 [vR 1, vI a1, vI a2]) [] σ h
set_option maxRecDepth 100000 in
theorem vm_X11_thing {Ln : Int} {d : Nat} {Q : Option AV → AS → Prop} (σ : AS) (h :
  (σ 1 12 < 10 →
    Q (some (vI (w32 (w32 (σ 1 12 + 1) - 1)))) (am_up σ 1 12 (w32 (σ 1 12 + 1)))) ∧
  (¬ (σ 1 12 < 10) →
    Q (some (vI (-1))) σ)) : am_M Ln (d + 1) 95 [vR 1] σ Q :=
  am_vc_E (d := d) (m := 95) (cut := []) 15 0 (am_entry 95 [vR 1]) [] σ h
set_option maxRecDepth 100000 in
theorem vm_X11_line {Ln : Int} {d : Nat} {Q : Option AV → AS → Prop} (σ : AS) (a1 a2 a3 a4 a5 a6 a7 : Int) (h :
  (a1 = 0 →
    (a1 = 2 →
      (a3 = (-1) →
        ((1 : Int) = 0 →
          Q (some (vI (-1))) σ) ∧
        (¬ ((1 : Int) = 0) →
          ∃ T : Option AV → AS → Prop, am_M Ln d 127 [vR 1, vI a2] σ T ∧ ∀ (r2 : Int) s1, T (some (vI r2)) s1 →
          (r2 = 0 →
            Q (some (vI (-1))) s1) ∧
          (¬ (r2 = 0) →
            ∃ T : Option AV → AS → Prop, am_M Ln d 131 [vI a4] s1 T ∧ ∀ (r4 : Int) s3, T (some (vI r4)) s3 →
            (r4 = 0 →
              Q (some (vI (-1))) s3) ∧
            (¬ (r4 = 0) →
              ∃ T : Option AV → AS → Prop, am_M Ln d 124 [vR 1, vI a5, vI a6, vI a7] s3 T ∧ ∀ (r6 : Int) s5, T (some (vI r6)) s5 →
              (r6 = 0 →
                Q (some (vI (-1))) s5) ∧
              (¬ (r6 = 0) →
                ∃ T : Option AV → AS → Prop, am_M Ln d 17 [vR 7, vI a1, vI a2, vI a3, vI a4, vI 0] s5 T ∧ ∀ s7, T none s7 →
                ∃ T : Option AV → AS → Prop, am_M Ln d 18 [vR 7, vI a5, vI a6, vI a7, vI (s7 1 10)] s7 T ∧ ∀ (r9 : Int) s8, T (some (vI r9)) s8 →
                Q (some (vI r9)) s8))))) ∧
      (¬ (a3 = (-1)) →
        ((0 : Int) = 0 →
          Q (some (vI (-1))) σ) ∧
        (¬ ((0 : Int) = 0) →
          ∃ T : Option AV → AS → Prop, am_M Ln d 127 [vR 1, vI a2] σ T ∧ ∀ (r11 : Int) s10, T (some (vI r11)) s10 →
          (r11 = 0 →
            Q (some (vI (-1))) s10) ∧
          (¬ (r11 = 0) →
            ∃ T : Option AV → AS → Prop, am_M Ln d 131 [vI a4] s10 T ∧ ∀ (r13 : Int) s12, T (some (vI r13)) s12 →
            (r13 = 0 →
              Q (some (vI (-1))) s12) ∧
            (¬ (r13 = 0) →
              ∃ T : Option AV → AS → Prop, am_M Ln d 124 [vR 1, vI a5, vI a6, vI a7] s12 T ∧ ∀ (r15 : Int) s14, T (some (vI r15)) s14 →
              (r15 = 0 →
                Q (some (vI (-1))) s14) ∧
              (¬ (r15 = 0) →
                ∃ T : Option AV → AS → Prop, am_M Ln d 17 [vR 7, vI a1, vI a2, vI a3, vI a4, vI 0] s14 T ∧ ∀ s16, T none s16 →
                ∃ T : Option AV → AS → Prop, am_M Ln d 18 [vR 7, vI a5, vI a6, vI a7, vI (s16 1 10)] s16 T ∧ ∀ (r18 : Int) s17, T (some (vI r18)) s17 →
                Q (some (vI r18)) s17)))))) ∧
    (¬ (a1 = 2) →
      ∃ T : Option AV → AS → Prop, am_M Ln d 125 [vR 1, vI a3] σ T ∧ ∀ (r20 : Int) s19, T (some (vI r20)) s19 →
      (r20 = 0 →
        Q (some (vI (-1))) s19) ∧
      (¬ (r20 = 0) →
        ∃ T : Option AV → AS → Prop, am_M Ln d 127 [vR 1, vI a2] s19 T ∧ ∀ (r22 : Int) s21, T (some (vI r22)) s21 →
        (r22 = 0 →
          Q (some (vI (-1))) s21) ∧
        (¬ (r22 = 0) →
          ∃ T : Option AV → AS → Prop, am_M Ln d 131 [vI a4] s21 T ∧ ∀ (r24 : Int) s23, T (some (vI r24)) s23 →
          (r24 = 0 →
            Q (some (vI (-1))) s23) ∧
          (¬ (r24 = 0) →
            ∃ T : Option AV → AS → Prop, am_M Ln d 124 [vR 1, vI a5, vI a6, vI a7] s23 T ∧ ∀ (r26 : Int) s25, T (some (vI r26)) s25 →
            (r26 = 0 →
              Q (some (vI (-1))) s25) ∧
            (¬ (r26 = 0) →
              ∃ T : Option AV → AS → Prop, am_M Ln d 17 [vR 7, vI a1, vI a2, vI a3, vI a4, vI 0] s25 T ∧ ∀ s27, T none s27 →
              ∃ T : Option AV → AS → Prop, am_M Ln d 18 [vR 7, vI a5, vI a6, vI a7, vI (s27 1 10)] s27 T ∧ ∀ (r29 : Int) s28, T (some (vI r29)) s28 →
              Q (some (vI r29)) s28)))))) ∧
  (¬ (a1 = 0) →
    (a1 = 2 →
      (a1 = 2 →
        (a3 = (-1) →
          ((1 : Int) = 0 →
            Q (some (vI (-1))) σ) ∧
          (¬ ((1 : Int) = 0) →
            ∃ T : Option AV → AS → Prop, am_M Ln d 127 [vR 1, vI a2] σ T ∧ ∀ (r31 : Int) s30, T (some (vI r31)) s30 →
            (r31 = 0 →
              Q (some (vI (-1))) s30) ∧
            (¬ (r31 = 0) →
              ∃ T : Option AV → AS → Prop, am_M Ln d 131 [vI a4] s30 T ∧ ∀ (r33 : Int) s32, T (some (vI r33)) s32 →
              (r33 = 0 →
                Q (some (vI (-1))) s32) ∧
              (¬ (r33 = 0) →
                ∃ T : Option AV → AS → Prop, am_M Ln d 124 [vR 1, vI a5, vI a6, vI a7] s32 T ∧ ∀ (r35 : Int) s34, T (some (vI r35)) s34 →
                (r35 = 0 →
                  Q (some (vI (-1))) s34) ∧
                (¬ (r35 = 0) →
                  ∃ T : Option AV → AS → Prop, am_M Ln d 17 [vR 7, vI a1, vI a2, vI a3, vI a4, vI 0] s34 T ∧ ∀ s36, T none s36 →
                  ∃ T : Option AV → AS → Prop, am_M Ln d 18 [vR 7, vI a5, vI a6, vI a7, vI (s36 1 10)] s36 T ∧ ∀ (r38 : Int) s37, T (some (vI r38)) s37 →
                  Q (some (vI r38)) s37))))) ∧
        (¬ (a3 = (-1)) →
          ((0 : Int) = 0 →
            Q (some (vI (-1))) σ) ∧
          (¬ ((0 : Int) = 0) →
            ∃ T : Option AV → AS → Prop, am_M Ln d 127 [vR 1, vI a2] σ T ∧ ∀ (r40 : Int) s39, T (some (vI r40)) s39 →
            (r40 = 0 →
              Q (some (vI (-1))) s39) ∧
            (¬ (r40 = 0) →
              ∃ T : Option AV → AS → Prop, am_M Ln d 131 [vI a4] s39 T ∧ ∀ (r42 : Int) s41, T (some (vI r42)) s41 →
              (r42 = 0 →
                Q (some (vI (-1))) s41) ∧
              (¬ (r42 = 0) →
                ∃ T : Option AV → AS → Prop, am_M Ln d 124 [vR 1, vI a5, vI a6, vI a7] s41 T ∧ ∀ (r44 : Int) s43, T (some (vI r44)) s43 →
                (r44 = 0 →
                  Q (some (vI (-1))) s43) ∧
                (¬ (r44 = 0) →
                  ∃ T : Option AV → AS → Prop, am_M Ln d 17 [vR 7, vI a1, vI a2, vI a3, vI a4, vI 0] s43 T ∧ ∀ s45, T none s45 →
                  ∃ T : Option AV → AS → Prop, am_M Ln d 18 [vR 7, vI a5, vI a6, vI a7, vI (s45 1 10)] s45 T ∧ ∀ (r47 : Int) s46, T (some (vI r47)) s46 →
                  Q (some (vI r47)) s46)))))) ∧
      (¬ (a1 = 2) →
        ∃ T : Option AV → AS → Prop, am_M Ln d 125 [vR 1, vI a3] σ T ∧ ∀ (r49 : Int) s48, T (some (vI r49)) s48 →
        (r49 = 0 →
          Q (some (vI (-1))) s48) ∧
        (¬ (r49 = 0) →
          ∃ T : Option AV → AS → Prop, am_M Ln d 127 [vR 1, vI a2] s48 T ∧ ∀ (r51 : Int) s50, T (some (vI r51)) s50 →
          (r51 = 0 →
            Q (some (vI (-1))) s50) ∧
          (¬ (r51 = 0) →
            ∃ T : Option AV → AS → Prop, am_M Ln d 131 [vI a4] s50 T ∧ ∀ (r53 : Int) s52, T (some (vI r53)) s52 →
            (r53 = 0 →
              Q (some (vI (-1))) s52) ∧
            (¬ (r53 = 0) →
              ∃ T : Option AV → AS → Prop, am_M Ln d 124 [vR 1, vI a5, vI a6, vI a7] s52 T ∧ ∀ (r55 : Int) s54, T (some (vI r55)) s54 →
              (r55 = 0 →
                Q (some (vI (-1))) s54) ∧
              (¬ (r55 = 0) →
                ∃ T : Option AV → AS → Prop, am_M Ln d 17 [vR 7, vI a1, vI a2, vI a3, vI a4, vI 0] s54 T ∧ ∀ s56, T none s56 →
                ∃ T : Option AV → AS → Prop, am_M Ln d 18 [vR 7, vI a5, vI a6, vI a7, vI (s56 1 10)] s56 T ∧ ∀ (r58 : Int) s57, T (some (vI r58)) s57 →
                Q (some (vI r58)) s57)))))) ∧
    (¬ (a1 = 2) →
      (a1 = 5 →
        (a1 = 2 →
          (a3 = (-1) →
            ((1 : Int) = 0 →
              Q (some (vI (-1))) σ) ∧
            (¬ ((1 : Int) = 0) →
              ∃ T : Option AV → AS → Prop, am_M Ln d 127 [vR 1, vI a2] σ T ∧ ∀ (r60 : Int) s59, T (some (vI r60)) s59 →
              (r60 = 0 →
                Q (some (vI (-1))) s59) ∧
              (¬ (r60 = 0) →
                ∃ T : Option AV → AS → Prop, am_M Ln d 131 [vI a4] s59 T ∧ ∀ (r62 : Int) s61, T (some (vI r62)) s61 →
                (r62 = 0 →
                  Q (some (vI (-1))) s61) ∧
                (¬ (r62 = 0) →
                  ∃ T : Option AV → AS → Prop, am_M Ln d 124 [vR 1, vI a5, vI a6, vI a7] s61 T ∧ ∀ (r64 : Int) s63, T (some (vI r64)) s63 →
                  (r64 = 0 →
                    Q (some (vI (-1))) s63) ∧
                  (¬ (r64 = 0) →
                    ∃ T : Option AV → AS → Prop, am_M Ln d 17 [vR 7, vI a1, vI a2, vI a3, vI a4, vI 0] s63 T ∧ ∀ s65, T none s65 →
                    ∃ T : Option AV → AS → Prop, am_M Ln d 18 [vR 7, vI a5, vI a6, vI a7, vI (s65 1 10)] s65 T ∧ ∀ (r67 : Int) s66, T (some (vI r67)) s66 →
                    Q (some (vI r67)) s66))))) ∧
          (¬ (a3 = (-1)) →
            ((0 : Int) = 0 →
              Q (some (vI (-1))) σ) ∧
            (¬ ((0 : Int) = 0) →
              ∃ T : Option AV → AS → Prop, am_M Ln d 127 [vR 1, vI a2] σ T ∧ ∀ (r69 : Int) s68, T (some (vI r69)) s68 →
              (r69 = 0 →
                Q (some (vI (-1))) s68) ∧
              (¬ (r69 = 0) →
                ∃ T : Option AV → AS → Prop, am_M Ln d 131 [vI a4] s68 T ∧ ∀ (r71 : Int) s70, T (some (vI r71)) s70 →
                (r71 = 0 →
                  Q (some (vI (-1))) s70) ∧
                (¬ (r71 = 0) →
                  ∃ T : Option AV → AS → Prop, am_M Ln d 124 [vR 1, vI a5, vI a6, vI a7] s70 T ∧ ∀ (r73 : Int) s72, T (some (vI r73)) s72 →
                  (r73 = 0 →
                    Q (some (vI (-1))) s72) ∧
                  (¬ (r73 = 0) →
                    ∃ T : Option AV → AS → Prop, am_M Ln d 17 [vR 7, vI a1, vI a2, vI a3, vI a4, vI 0] s72 T ∧ ∀ s74, T none s74 →
                    ∃ T : Option AV → AS → Prop, am_M Ln d 18 [vR 7, vI a5, vI a6, vI a7, vI (s74 1 10)] s74 T ∧ ∀ (r76 : Int) s75, T (some (vI r76)) s75 →
                    Q (some (vI r76)) s75)))))) ∧
        (¬ (a1 = 2) →
          ∃ T : Option AV → AS → Prop, am_M Ln d 125 [vR 1, vI a3] σ T ∧ ∀ (r78 : Int) s77, T (some (vI r78)) s77 →
          (r78 = 0 →
            Q (some (vI (-1))) s77) ∧
          (¬ (r78 = 0) →
            ∃ T : Option AV → AS → Prop, am_M Ln d 127 [vR 1, vI a2] s77 T ∧ ∀ (r80 : Int) s79, T (some (vI r80)) s79 →
            (r80 = 0 →
              Q (some (vI (-1))) s79) ∧
            (¬ (r80 = 0) →
              ∃ T : Option AV → AS → Prop, am_M Ln d 131 [vI a4] s79 T ∧ ∀ (r82 : Int) s81, T (some (vI r82)) s81 →
              (r82 = 0 →
                Q (some (vI (-1))) s81) ∧
              (¬ (r82 = 0) →
                ∃ T : Option AV → AS → Prop, am_M Ln d 124 [vR 1, vI a5, vI a6, vI a7] s81 T ∧ ∀ (r84 : Int) s83, T (some (vI r84)) s83 →
                (r84 = 0 →
                  Q (some (vI (-1))) s83) ∧
                (¬ (r84 = 0) →
                  ∃ T : Option AV → AS → Prop, am_M Ln d 17 [vR 7, vI a1, vI a2, vI a3, vI a4, vI 0] s83 T ∧ ∀ s85, T none s85 →
                  ∃ T : Option AV → AS → Prop, am_M Ln d 18 [vR 7, vI a5, vI a6, vI a7, vI (s85 1 10)] s85 T ∧ ∀ (r87 : Int) s86, T (some (vI r87)) s86 →
                  Q (some (vI r87)) s86)))))) ∧
      (¬ (a1 = 5) →
        Q (some (vI (-1))) σ)))) : am_M Ln (d + 1) 96 [vR 1, vI a1, vI a2, vI a3, vI a4, vI a5, vI a6, vI a7] σ Q :=
  am_vc_E (d := d) (m := 96) (cut := []) 49 0 (am_entry 96 [vR 1, vI a1, vI a2, vI a3, vI a4, vI a5, vI a6, vI a7]) [] σ h
set_option maxRecDepth 100000 in
theorem vm_X11_move {Ln : Int} {d : Nat} {Q : Option AV → AS → Prop} (σ : AS) (a1 a2 a3 a4 a5 a6 a7 : Int) (h :
  ∃ T : Option AV → AS → Prop, am_M Ln d 127 [vR 1, vI a1] σ T ∧ ∀ (r2 : Int) s1, T (some (vI r2)) s1 →
  (r2 = 0 →
    Q (some (vI (-1))) s1) ∧
  (¬ (r2 = 0) →
    ∃ T : Option AV → AS → Prop, am_M Ln d 127 [vR 1, vI a2] s1 T ∧ ∀ (r4 : Int) s3, T (some (vI r4)) s3 →
    (r4 = 0 →
      Q (some (vI (-1))) s3) ∧
    (¬ (r4 = 0) →
      (a1 = a2 →
        Q (some (vI (-1))) s3) ∧
      (¬ (a1 = a2) →
        ∃ T : Option AV → AS → Prop, am_M Ln d 131 [vI a3] s3 T ∧ ∀ (r6 : Int) s5, T (some (vI r6)) s5 →
        (r6 = 0 →
          Q (some (vI (-1))) s5) ∧
        (¬ (r6 = 0) →
          ∃ T : Option AV → AS → Prop, am_M Ln d 124 [vR 1, vI a5, vI a6, vI a7] s5 T ∧ ∀ (r8 : Int) s7, T (some (vI r8)) s7 →
          (r8 = 0 →
            Q (some (vI (-1))) s7) ∧
          (¬ (r8 = 0) →
            ∃ T : Option AV → AS → Prop, am_M Ln d 17 [vR 7, vI 1, vI a1, vI a2, vI a3, vI a4] s7 T ∧ ∀ s9, T none s9 →
            ∃ T : Option AV → AS → Prop, am_M Ln d 18 [vR 7, vI a5, vI a6, vI a7, vI (s9 1 10)] s9 T ∧ ∀ (r11 : Int) s10, T (some (vI r11)) s10 →
            Q (some (vI r11)) s10)))))) : am_M Ln (d + 1) 97 [vR 1, vI a1, vI a2, vI a3, vI a4, vI a5, vI a6, vI a7] σ Q :=
  am_vc_E (d := d) (m := 97) (cut := []) 37 0 (am_entry 97 [vR 1, vI a1, vI a2, vI a3, vI a4, vI a5, vI a6, vI a7]) [] σ h
set_option maxRecDepth 100000 in
theorem vm_X11_deal {Ln : Int} {d : Nat} {Q : Option AV → AS → Prop} (σ : AS) (a1 a2 a3 a4 a5 a6 a7 : Int) (h :
  ∃ T : Option AV → AS → Prop, am_M Ln d 127 [vR 1, vI a2] σ T ∧ ∀ (r2 : Int) s1, T (some (vI r2)) s1 →
  (r2 = 0 →
    Q (some (vI (-1))) s1) ∧
  (¬ (r2 = 0) →
    ∃ T : Option AV → AS → Prop, am_M Ln d 128 [vR 1, vI a3] s1 T ∧ ∀ (r4 : Int) s3, T (some (vI r4)) s3 →
    (r4 = 0 →
      Q (some (vI (-1))) s3) ∧
    (¬ (r4 = 0) →
      ∃ T : Option AV → AS → Prop, am_M Ln d 131 [vI a4] s3 T ∧ ∀ (r6 : Int) s5, T (some (vI r6)) s5 →
      (r6 = 0 →
        Q (some (vI (-1))) s5) ∧
      (¬ (r6 = 0) →
        ∃ T : Option AV → AS → Prop, am_M Ln d 124 [vR 1, vI a5, vI a6, vI a7] s5 T ∧ ∀ (r8 : Int) s7, T (some (vI r8)) s7 →
        (r8 = 0 →
          Q (some (vI (-1))) s7) ∧
        (¬ (r8 = 0) →
          (a1 = 0 →
            ∃ T : Option AV → AS → Prop, am_M Ln d 17 [vR 7, vI 3, vI a2, vI a3, vI a4, vI 0] s7 T ∧ ∀ s9, T none s9 →
            ∃ T : Option AV → AS → Prop, am_M Ln d 18 [vR 7, vI a5, vI a6, vI a7, vI (s9 1 10)] s9 T ∧ ∀ (r11 : Int) s10, T (some (vI r11)) s10 →
            Q (some (vI r11)) s10) ∧
          (¬ (a1 = 0) →
            ∃ T : Option AV → AS → Prop, am_M Ln d 17 [vR 7, vI 4, vI a2, vI a3, vI a4, vI 0] s7 T ∧ ∀ s12, T none s12 →
            ∃ T : Option AV → AS → Prop, am_M Ln d 18 [vR 7, vI a5, vI a6, vI a7, vI (s12 1 10)] s12 T ∧ ∀ (r14 : Int) s13, T (some (vI r14)) s13 →
            Q (some (vI r14)) s13)))))) : am_M Ln (d + 1) 98 [vR 1, vI a1, vI a2, vI a3, vI a4, vI a5, vI a6, vI a7] σ Q :=
  am_vc_E (d := d) (m := 98) (cut := []) 37 0 (am_entry 98 [vR 1, vI a1, vI a2, vI a3, vI a4, vI a5, vI a6, vI a7]) [] σ h
set_option maxRecDepth 100000 in
theorem vm_X11_strike {Ln : Int} {d : Nat} {Q : Option AV → AS → Prop} (σ : AS) (a1 : Int) (h :
  ∃ T : Option AV → AS → Prop, am_M Ln d 129 [vR 1, vI a1] σ T ∧ ∀ (r2 : Int) s1, T (some (vI r2)) s1 →
  (r2 = 0 →
    am_b 0 ∧ Q (some (vI 0)) s1) ∧
  (¬ (r2 = 0) →
    (0 ≤ a1 ∧ a1 < 100) ∧ ((s1 17 a1 = (-1) →
      (0 ≤ a1 ∧ a1 < 100) ∧ (am_b 1 ∧ Q (some (vI 1)) (am_up s1 17 a1 (s1 1 10)))) ∧
    (¬ (s1 17 a1 = (-1)) →
      am_b 0 ∧ Q (some (vI 0)) s1)))) : am_M Ln (d + 1) 99 [vR 1, vI a1] σ Q :=
  am_vc_E (d := d) (m := 99) (cut := []) 20 0 (am_entry 99 [vR 1, vI a1]) [] σ h
set_option maxRecDepth 100000 in
theorem vm_X11_feed {Ln : Int} {d : Nat} {Q : Option AV → AS → Prop} (σ : AS) (a1 a2 a3 a4 a5 : Int) (h :
  ∃ T : Option AV → AS → Prop, am_M Ln d 88 [vR 2] σ T ∧ ∀ (r2 : Int) s1, T (some (vI r2)) s1 →
  (r2 = 0 →
    Q (some (vI (-1))) s1) ∧
  (¬ (r2 = 0) →
    ∃ T : Option AV → AS → Prop, am_M Ln d 89 [vR 2, vI a1] s1 T ∧ ∀ s3, T none s3 →
    ∃ T : Option AV → AS → Prop, am_M Ln d 89 [vR 2, vI a2] s3 T ∧ ∀ s4, T none s4 →
    ∃ T : Option AV → AS → Prop, am_M Ln d 89 [vR 2, vI a3] s4 T ∧ ∀ s5, T none s5 →
    ∃ T : Option AV → AS → Prop, am_M Ln d 89 [vR 2, vI a4] s5 T ∧ ∀ s6, T none s6 →
    ∃ T : Option AV → AS → Prop, am_M Ln d 89 [vR 2, vI a5] s6 T ∧ ∀ s7, T none s7 →
    Q (some (vI (s7 2 1))) s7)) : am_M Ln (d + 1) 100 [vR 1, vI a1, vI a2, vI a3, vI a4, vI a5] σ Q :=
  am_vc_E (d := d) (m := 100) (cut := []) 28 0 (am_entry 100 [vR 1, vI a1, vI a2, vI a3, vI a4, vI a5]) [] σ h
set_option maxRecDepth 100000 in
theorem vm_X11_rules {Ln : Int} {d : Nat} {Q : Option AV → AS → Prop} (σ : AS) (a1 a2 a3 a4 : Int) (h :
  (a1 < 0 →
    Q (some (vI (-1))) σ) ∧
  (¬ (a1 < 0) →
    (4 ≤ a1 →
      Q (some (vI (-1))) σ) ∧
    (¬ (4 ≤ a1) →
      ∃ T : Option AV → AS → Prop, am_M Ln d 130 [vI a2] σ T ∧ ∀ (r2 : Int) s1, T (some (vI r2)) s1 →
      (r2 = 0 →
        Q (some (vI (-1))) s1) ∧
      (¬ (r2 = 0) →
        ∃ T : Option AV → AS → Prop, am_M Ln d 130 [vI a3] s1 T ∧ ∀ (r4 : Int) s3, T (some (vI r4)) s3 →
        (r4 = 0 →
          Q (some (vI (-1))) s3) ∧
        (¬ (r4 = 0) →
          (a2 ≤ a3 →
            (a4 < 1 →
              Q (some (vI (-1))) s3) ∧
            (¬ (a4 < 1) →
              (160 < a4 →
                Q (some (vI (-1))) s3) ∧
              (¬ (160 < a4) →
                (s3 2 1 < a4 →
                  Q (some (vI (-1))) s3) ∧
                (¬ (s3 2 1 < a4) →
                  (s3 24 14 < 20 →
                    ∃ T : Option AV → AS → Prop, am_M Ln d 54 [vR 39, vI a4] s3 T ∧ ∀ (r6 : Int) s5, T (some (vI r6)) s5 →
                    (r6 = 0 →
                      ∃ T : Option AV → AS → Prop, am_M Ln d 47 [vR 24, vI a1, vI a2, vI a3, vI (s5 1 10)] (am_up s5 2 1 0) T ∧ ∀ (r8 : Int) s7, T (some (vI r8)) s7 →
                      Q (some (vI r8)) s7) ∧
                    (¬ (r6 = 0) →
                      Q (some (vI r6)) (am_up s5 2 1 0))) ∧
                  (¬ (s3 24 14 < 20) →
                    Q (some (vI (-1))) s3))))) ∧
          (¬ (a2 ≤ a3) →
            Q (some (vI (-1))) s3)))))) : am_M Ln (d + 1) 101 [vR 1, vI a1, vI a2, vI a3, vI a4] σ Q :=
  am_vc_E (d := d) (m := 101) (cut := []) 50 0 (am_entry 101 [vR 1, vI a1, vI a2, vI a3, vI a4]) [] σ h
set_option maxRecDepth 100000 in
theorem vm_X11_knows {Ln : Int} {d : Nat} {Q : Option AV → AS → Prop} (σ : AS) (a1 a2 a3 : Int) (h :
  ∃ T : Option AV → AS → Prop, am_M Ln d 125 [vR 1, vI a1] σ T ∧ ∀ (r2 : Int) s1, T (some (vI r2)) s1 →
  (r2 = 0 →
    am_b 0 ∧ Q (some (vI 0)) s1) ∧
  (¬ (r2 = 0) →
    ∃ T : Option AV → AS → Prop, am_M Ln d 125 [vR 1, vI a2] s1 T ∧ ∀ (r4 : Int) s3, T (some (vI r4)) s3 →
    (r4 = 0 →
      am_b 0 ∧ Q (some (vI 0)) s3) ∧
    (¬ (r4 = 0) →
      (a1 = a2 →
        am_b 0 ∧ Q (some (vI 0)) s3) ∧
      (¬ (a1 = a2) →
        ∃ T : Option AV → AS → Prop, am_M Ln d 130 [vI a3] s3 T ∧ ∀ (r6 : Int) s5, T (some (vI r6)) s5 →
        (r6 = 0 →
          am_b 0 ∧ Q (some (vI 0)) s5) ∧
        (¬ (r6 = 0) →
          ∃ T : Option AV → AS → Prop, am_M Ln d 15 [vR 19, vI a1, vI a2, vI a3, vI (s5 1 10)] s5 T ∧ ∀ (r8 : Int) s7, T (some (vI r8)) s7 →
          am_b r8 ∧ Q (some (vI r8)) s7))))) : am_M Ln (d + 1) 102 [vR 1, vI a1, vI a2, vI a3] σ Q :=
  am_vc_E (d := d) (m := 102) (cut := []) 23 0 (am_entry 102 [vR 1, vI a1, vI a2, vI a3]) [] σ h
set_option maxRecDepth 100000 in
theorem vm_X11_left {Ln : Int} {d : Nat} {Q : Option AV → AS → Prop} (σ : AS) (a1 a2 a3 a4 : Int) (h :
  ∃ T : Option AV → AS → Prop, am_M Ln d 127 [vR 1, vI a1] σ T ∧ ∀ (r2 : Int) s1, T (some (vI r2)) s1 →
  (r2 = 0 →
    Q (some (vI (-1))) s1) ∧
  (¬ (r2 = 0) →
    ∃ T : Option AV → AS → Prop, am_M Ln d 126 [vR 1, vI a2] s1 T ∧ ∀ (r4 : Int) s3, T (some (vI r4)) s3 →
    (r4 = 0 →
      Q (some (vI (-1))) s3) ∧
    (¬ (r4 = 0) →
      ∃ T : Option AV → AS → Prop, am_M Ln d 130 [vI a3] s3 T ∧ ∀ (r6 : Int) s5, T (some (vI r6)) s5 →
      (r6 = 0 →
        Q (some (vI (-1))) s5) ∧
      (¬ (r6 = 0) →
        ∃ T : Option AV → AS → Prop, am_M Ln d 130 [vI a4] s5 T ∧ ∀ (r8 : Int) s7, T (some (vI r8)) s7 →
        (r8 = 0 →
          Q (some (vI (-1))) s7) ∧
        (¬ (r8 = 0) →
          ∃ T : Option AV → AS → Prop, am_M Ln d 32 [vR 40, vI a3, vI a4] s7 T ∧ ∀ s9, T none s9 →
          ∃ T : Option AV → AS → Prop, am_M Ln d 85 [vR 41, vI a1, vI a2] s9 T ∧ ∀ (r11 : Int) s10, T (some (vI r11)) s10 →
          Q (some (vI r11)) s10))))) : am_M Ln (d + 1) 103 [vR 1, vI a1, vI a2, vI a3, vI a4] σ Q :=
  am_vc_E (d := d) (m := 103) (cut := []) 26 0 (am_entry 103 [vR 1, vI a1, vI a2, vI a3, vI a4]) [] σ h
set_option maxRecDepth 100000 in
theorem vm_X11_share {Ln : Int} {d : Nat} {Q : Option AV → AS → Prop} (σ : AS) (a1 a2 a3 a4 : Int) (h :
  ∃ T : Option AV → AS → Prop, am_M Ln d 128 [vR 1, vI a1] σ T ∧ ∀ (r2 : Int) s1, T (some (vI r2)) s1 →
  (r2 = 0 →
    Q (some (vI (-1))) s1) ∧
  (¬ (r2 = 0) →
    ∃ T : Option AV → AS → Prop, am_M Ln d 126 [vR 1, vI a2] s1 T ∧ ∀ (r4 : Int) s3, T (some (vI r4)) s3 →
    (r4 = 0 →
      Q (some (vI (-1))) s3) ∧
    (¬ (r4 = 0) →
      ∃ T : Option AV → AS → Prop, am_M Ln d 130 [vI a3] s3 T ∧ ∀ (r6 : Int) s5, T (some (vI r6)) s5 →
      (r6 = 0 →
        Q (some (vI (-1))) s5) ∧
      (¬ (r6 = 0) →
        ∃ T : Option AV → AS → Prop, am_M Ln d 130 [vI a4] s5 T ∧ ∀ (r8 : Int) s7, T (some (vI r8)) s7 →
        (r8 = 0 →
          Q (some (vI (-1))) s7) ∧
        (¬ (r8 = 0) →
          ∃ T : Option AV → AS → Prop, am_M Ln d 32 [vR 40, vI a3, vI a4] s7 T ∧ ∀ s9, T none s9 →
          ∃ T : Option AV → AS → Prop, am_M Ln d 86 [vR 41, vI a1, vI a2] s9 T ∧ ∀ (r11 : Int) s10, T (some (vI r11)) s10 →
          Q (some (vI r11)) s10))))) : am_M Ln (d + 1) 104 [vR 1, vI a1, vI a2, vI a3, vI a4] σ Q :=
  am_vc_E (d := d) (m := 104) (cut := []) 26 0 (am_entry 104 [vR 1, vI a1, vI a2, vI a3, vI a4]) [] σ h
set_option maxRecDepth 100000 in
theorem vm_X11_lost {Ln : Int} {d : Nat} {Q : Option AV → AS → Prop} (σ : AS) (a1 a2 a3 a4 : Int) (h :
  ∃ T : Option AV → AS → Prop, am_M Ln d 127 [vR 1, vI a1] σ T ∧ ∀ (r2 : Int) s1, T (some (vI r2)) s1 →
  (r2 = 0 →
    Q (some (vI (-1))) s1) ∧
  (¬ (r2 = 0) →
    ∃ T : Option AV → AS → Prop, am_M Ln d 125 [vR 1, vI a2] s1 T ∧ ∀ (r4 : Int) s3, T (some (vI r4)) s3 →
    (r4 = 0 →
      Q (some (vI (-1))) s3) ∧
    (¬ (r4 = 0) →
      ∃ T : Option AV → AS → Prop, am_M Ln d 130 [vI a3] s3 T ∧ ∀ (r6 : Int) s5, T (some (vI r6)) s5 →
      (r6 = 0 →
        Q (some (vI (-1))) s5) ∧
      (¬ (r6 = 0) →
        ∃ T : Option AV → AS → Prop, am_M Ln d 130 [vI a4] s5 T ∧ ∀ (r8 : Int) s7, T (some (vI r8)) s7 →
        (r8 = 0 →
          Q (some (vI (-1))) s7) ∧
        (¬ (r8 = 0) →
          ∃ T : Option AV → AS → Prop, am_M Ln d 32 [vR 40, vI a3, vI a4] s7 T ∧ ∀ s9, T none s9 →
          (0 ≤ w32 (w32 (a1 * 10) + a2) ∧ w32 (w32 (a1 * 10) + a2) < 100) ∧ (Q (some (vI (s9 47 (w32 (w32 (a1 * 10) + a2))))) s9)))))) : am_M Ln (d + 1) 105 [vR 1, vI a1, vI a2, vI a3, vI a4] σ Q :=
  am_vc_E (d := d) (m := 105) (cut := []) 30 0 (am_entry 105 [vR 1, vI a1, vI a2, vI a3, vI a4]) [] σ h
set_option maxRecDepth 100000 in
theorem vm_X11_part {Ln : Int} {d : Nat} {Q : Option AV → AS → Prop} (σ : AS) (a1 a2 a3 : Int) (h :
  ∃ T : Option AV → AS → Prop, am_M Ln d 127 [vR 1, vI a1] σ T ∧ ∀ (r2 : Int) s1, T (some (vI r2)) s1 →
  (r2 = 0 →
    Q (some (vI (-1))) s1) ∧
  (¬ (r2 = 0) →
    (a2 < 0 →
      Q (some (vI (-1))) s1) ∧
    (¬ (a2 < 0) →
      (a3 < 0 →
        Q (some (vI (-1))) s1) ∧
      (¬ (a3 < 0) →
        (a3 ≤ 1 →
          ∃ T : Option AV → AS → Prop, am_M Ln d 32 [vR 40, vI (s1 1 10), vI (s1 1 10)] s1 T ∧ ∀ s3, T none s3 →
          ∃ T : Option AV → AS → Prop, am_M Ln d 87 [vR 41, vI a1, vI a2] s3 T ∧ ∀ (r5 : Int) s4, T (some (vI r5)) s4 →
          (r5 = (-1) →
            Q (some (vI (-1))) s4) ∧
          (¬ (r5 = (-1)) →
            (a3 = 0 →
              (0 ≤ r5 ∧ r5 < 1010) ∧ (Q (some (vI (s4 43 r5))) s4)) ∧
            (¬ (a3 = 0) →
              (0 ≤ r5 ∧ r5 < 1010) ∧ (Q (some (vI (s4 44 r5))) s4)))) ∧
        (¬ (a3 ≤ 1) →
          Q (some (vI (-1))) s1))))) : am_M Ln (d + 1) 106 [vR 1, vI a1, vI a2, vI a3] σ Q :=
  am_vc_E (d := d) (m := 106) (cut := []) 38 0 (am_entry 106 [vR 1, vI a1, vI a2, vI a3]) [] σ h
set_option maxRecDepth 100000 in
theorem vm_X11_took {Ln : Int} {d : Nat} {Q : Option AV → AS → Prop} (σ : AS) (a1 a2 a3 : Int) (h :
  ∃ T : Option AV → AS → Prop, am_M Ln d 129 [vR 1, vI a1] σ T ∧ ∀ (r2 : Int) s1, T (some (vI r2)) s1 →
  (r2 = 0 →
    Q (some (vI (-1))) s1) ∧
  (¬ (r2 = 0) →
    ∃ T : Option AV → AS → Prop, am_M Ln d 125 [vR 1, vI a2] s1 T ∧ ∀ (r4 : Int) s3, T (some (vI r4)) s3 →
    (r4 = 0 →
      Q (some (vI (-1))) s3) ∧
    (¬ (r4 = 0) →
      ∃ T : Option AV → AS → Prop, am_M Ln d 130 [vI a3] s3 T ∧ ∀ (r6 : Int) s5, T (some (vI r6)) s5 →
      (r6 = 0 →
        Q (some (vI (-1))) s5) ∧
      (¬ (r6 = 0) →
        ∃ T : Option AV → AS → Prop, am_M Ln d 33 [vR 40, vI a1, vI a3] s5 T ∧ ∀ (r8 : Int) s7, T (some (vI r8)) s7 →
        (r8 = 0 →
          Q (some (vI (-3))) s7) ∧
        (¬ (r8 = 0) →
          (s7 40 13 = 0 →
            (0 ≤ a2 ∧ a2 < 10) ∧ (Q (some (vI (s7 50 a2))) s7)) ∧
          (¬ (s7 40 13 = 0) →
            Q (some (vI (-2))) s7)))))) : am_M Ln (d + 1) 107 [vR 1, vI a1, vI a2, vI a3] σ Q :=
  am_vc_E (d := d) (m := 107) (cut := []) 28 0 (am_entry 107 [vR 1, vI a1, vI a2, vI a3]) [] σ h
set_option maxRecDepth 100000 in
theorem vm_X11_way {Ln : Int} {d : Nat} {Q : Option AV → AS → Prop} (σ : AS) (a1 a2 : Int) (h :
  ∃ T : Option AV → AS → Prop, am_M Ln d 129 [vR 1, vI a1] σ T ∧ ∀ (r2 : Int) s1, T (some (vI r2)) s1 →
  (r2 = 0 →
    Q (some (vI (-1))) s1) ∧
  (¬ (r2 = 0) →
    ∃ T : Option AV → AS → Prop, am_M Ln d 130 [vI a2] s1 T ∧ ∀ (r4 : Int) s3, T (some (vI r4)) s3 →
    (r4 = 0 →
      Q (some (vI (-1))) s3) ∧
    (¬ (r4 = 0) →
      ∃ T : Option AV → AS → Prop, am_M Ln d 22 [vR 7, vI a1] s3 T ∧ ∀ (r6 : Int) s5, T (some (vI r6)) s5 →
      (r6 = 0 →
        Q (some (vI (-3))) s5) ∧
      (¬ (r6 = 0) →
        ∃ T : Option AV → AS → Prop, am_M Ln d 33 [vR 40, vI a1, vI a2] s5 T ∧ ∀ (r8 : Int) s7, T (some (vI r8)) s7 →
        (r8 = 0 →
          Q (some (vI (-3))) s7) ∧
        (¬ (r8 = 0) →
          Q (some (vI (s7 40 10))) s7))))) : am_M Ln (d + 1) 108 [vR 1, vI a1, vI a2] σ Q :=
  am_vc_E (d := d) (m := 108) (cut := []) 22 0 (am_entry 108 [vR 1, vI a1, vI a2]) [] σ h
set_option maxRecDepth 100000 in
theorem vm_X11_fails {Ln : Int} {d : Nat} {Q : Option AV → AS → Prop} (σ : AS) (a1 : Int) (h :
  ∃ T : Option AV → AS → Prop, am_M Ln d 130 [vI a1] σ T ∧ ∀ (r2 : Int) s1, T (some (vI r2)) s1 →
  (r2 = 0 →
    Q (some (vI (-1))) s1) ∧
  (¬ (r2 = 0) →
    ∃ T : Option AV → AS → Prop, am_M Ln d 32 [vR 40, vI 3999, vI a1] s1 T ∧ ∀ s3, T none s3 →
    Q (some (vI (s3 40 14))) s3)) : am_M Ln (d + 1) 109 [vR 1, vI a1] σ Q :=
  am_vc_E (d := d) (m := 109) (cut := []) 12 0 (am_entry 109 [vR 1, vI a1]) [] σ h
set_option maxRecDepth 100000 in
theorem vm_X11_sure {Ln : Int} {d : Nat} {Q : Option AV → AS → Prop} (σ : AS) (a1 a2 a3 a4 : Int) (h :
  ∃ T : Option AV → AS → Prop, am_M Ln d 127 [vR 1, vI a1] σ T ∧ ∀ (r2 : Int) s1, T (some (vI r2)) s1 →
  (r2 = 0 →
    Q (some (vI (-1))) s1) ∧
  (¬ (r2 = 0) →
    ∃ T : Option AV → AS → Prop, am_M Ln d 125 [vR 1, vI a2] s1 T ∧ ∀ (r4 : Int) s3, T (some (vI r4)) s3 →
    (r4 = 0 →
      Q (some (vI (-1))) s3) ∧
    (¬ (r4 = 0) →
      ∃ T : Option AV → AS → Prop, am_M Ln d 130 [vI a3] s3 T ∧ ∀ (r6 : Int) s5, T (some (vI r6)) s5 →
      (r6 = 0 →
        Q (some (vI (-1))) s5) ∧
      (¬ (r6 = 0) →
        (a4 < 0 →
          Q (some (vI (-1))) s5) ∧
        (¬ (a4 < 0) →
          (a4 ≤ 2 →
            ∃ T : Option AV → AS → Prop, am_M Ln d 23 [vR 69, vI a1, vI a2, vI a3, vI (s5 1 10)] s5 T ∧ ∀ (r8 : Int) s7, T (some (vI r8)) s7 →
            (r8 = 0 →
              Q (some (vI (-1))) s7) ∧
            (¬ (r8 = 0) →
              (a4 = 0 →
                Q (some (vI (s7 69 4))) s7) ∧
              (¬ (a4 = 0) →
                (a4 = 1 →
                  Q (some (vI (s7 69 5))) s7) ∧
                (¬ (a4 = 1) →
                  Q (some (vI (s7 69 6))) s7)))) ∧
          (¬ (a4 ≤ 2) →
            Q (some (vI (-1))) s5)))))) : am_M Ln (d + 1) 110 [vR 1, vI a1, vI a2, vI a3, vI a4] σ Q :=
  am_vc_E (d := d) (m := 110) (cut := []) 35 0 (am_entry 110 [vR 1, vI a1, vI a2, vI a3, vI a4]) [] σ h
set_option maxRecDepth 100000 in
theorem vm_X11_beside {Ln : Int} {d : Nat} {Q : Option AV → AS → Prop} (σ : AS) (a1 a2 a3 a4 : Int) (h :
  ∃ T : Option AV → AS → Prop, am_M Ln d 127 [vR 1, vI a1] σ T ∧ ∀ (r2 : Int) s1, T (some (vI r2)) s1 →
  (r2 = 0 →
    Q (some (vI (-1))) s1) ∧
  (¬ (r2 = 0) →
    ∃ T : Option AV → AS → Prop, am_M Ln d 125 [vR 1, vI a2] s1 T ∧ ∀ (r4 : Int) s3, T (some (vI r4)) s3 →
    (r4 = 0 →
      Q (some (vI (-1))) s3) ∧
    (¬ (r4 = 0) →
      ∃ T : Option AV → AS → Prop, am_M Ln d 127 [vR 1, vI a3] s3 T ∧ ∀ (r6 : Int) s5, T (some (vI r6)) s5 →
      (r6 = 0 →
        Q (some (vI (-1))) s5) ∧
      (¬ (r6 = 0) →
        ∃ T : Option AV → AS → Prop, am_M Ln d 132 [vI a4] s5 T ∧ ∀ (r8 : Int) s7, T (some (vI r8)) s7 →
        (r8 = 0 →
          Q (some (vI (-1))) s7) ∧
        (¬ (r8 = 0) →
          ∃ T : Option AV → AS → Prop, am_M Ln d 31 [vR 40, vI (s7 1 10), vI (s7 1 10)] s7 T ∧ ∀ s9, T none s9 →
          (0 ≤ a3 ∧ a3 < 10) ∧ (∃ T : Option AV → AS → Prop, am_M Ln d 73 [vR 41] (am_up s9 66 a3 a4) T ∧ ∀ s10, T none s10 →
          ∃ T : Option AV → AS → Prop, am_M Ln d 36 [vR 40, vI 0, vI (s10 40 7)] s10 T ∧ ∀ s11, T none s11 →
          ∃ T : Option AV → AS → Prop, am_M Ln d 85 [vR 41, vI a1, vI a2] s11 T ∧ ∀ (r13 : Int) s12, T (some (vI r13)) s12 →
          Q (some (vI r13)) s12)))))) : am_M Ln (d + 1) 111 [vR 1, vI a1, vI a2, vI a3, vI a4] σ Q :=
  am_vc_E (d := d) (m := 111) (cut := []) 46 0 (am_entry 111 [vR 1, vI a1, vI a2, vI a3, vI a4]) [] σ h
set_option maxRecDepth 100000 in
theorem vm_X11_choose {Ln : Int} {d : Nat} {Q : Option AV → AS → Prop} (σ : AS) (a1 a2 : Int) (h :
  ∃ T : Option AV → AS → Prop, am_M Ln d 127 [vR 1, vI a1] σ T ∧ ∀ (r2 : Int) s1, T (some (vI r2)) s1 →
  (r2 = 0 →
    am_b 0 ∧ Q (some (vI 0)) s1) ∧
  (¬ (r2 = 0) →
    (a2 < 0 →
      am_b 0 ∧ Q (some (vI 0)) s1) ∧
    (¬ (a2 < 0) →
      (a2 < 32 →
        ∃ T : Option AV → AS → Prop, am_M Ln d 1 [vR 70, vI a1, vI a2] s1 T ∧ ∀ (r4 : Int) s3, T (some (vI r4)) s3 →
        am_b r4 ∧ Q (some (vI r4)) s3) ∧
      (¬ (a2 < 32) →
        am_b 0 ∧ Q (some (vI 0)) s1)))) : am_M Ln (d + 1) 112 [vR 1, vI a1, vI a2] σ Q :=
  am_vc_E (d := d) (m := 112) (cut := []) 15 0 (am_entry 112 [vR 1, vI a1, vI a2]) [] σ h
set_option maxRecDepth 100000 in
theorem vm_X11_bar {Ln : Int} {d : Nat} {Q : Option AV → AS → Prop} (σ : AS) (a1 a2 a3 a4 : Int) (h :
  ∃ T : Option AV → AS → Prop, am_M Ln d 127 [vR 1, vI a1] σ T ∧ ∀ (r2 : Int) s1, T (some (vI r2)) s1 →
  (r2 = 0 →
    am_b 0 ∧ Q (some (vI 0)) s1) ∧
  (¬ (r2 = 0) →
    ∃ T : Option AV → AS → Prop, am_M Ln d 132 [vI a2] s1 T ∧ ∀ (r4 : Int) s3, T (some (vI r4)) s3 →
    (r4 = 0 →
      am_b 0 ∧ Q (some (vI 0)) s3) ∧
    (¬ (r4 = 0) →
      ∃ T : Option AV → AS → Prop, am_M Ln d 127 [vR 1, vI a3] s3 T ∧ ∀ (r6 : Int) s5, T (some (vI r6)) s5 →
      (r6 = 0 →
        am_b 0 ∧ Q (some (vI 0)) s5) ∧
      (¬ (r6 = 0) →
        ∃ T : Option AV → AS → Prop, am_M Ln d 132 [vI a4] s5 T ∧ ∀ (r8 : Int) s7, T (some (vI r8)) s7 →
        (r8 = 0 →
          am_b 0 ∧ Q (some (vI 0)) s7) ∧
        (¬ (r8 = 0) →
          (a1 = a3 →
            am_b 0 ∧ Q (some (vI 0)) s7) ∧
          (¬ (a1 = a3) →
            ∃ T : Option AV → AS → Prop, am_M Ln d 2 [vR 70, vI (w32 (w32 (a1 * 5) + a2)), vI (w32 (w32 (a3 * 5) + a4))] s7 T ∧ ∀ (r10 : Int) s9, T (some (vI r10)) s9 →
            am_b r10 ∧ Q (some (vI r10)) s9)))))) : am_M Ln (d + 1) 113 [vR 1, vI a1, vI a2, vI a3, vI a4] σ Q :=
  am_vc_E (d := d) (m := 113) (cut := []) 31 0 (am_entry 113 [vR 1, vI a1, vI a2, vI a3, vI a4]) [] σ h
set_option maxRecDepth 100000 in
theorem vm_X11_best {Ln : Int} {d : Nat} {Q : Option AV → AS → Prop} (σ : AS) (a1 : Int) (h :
  ∃ T : Option AV → AS → Prop, am_M Ln d 125 [vR 1, vI a1] σ T ∧ ∀ (r2 : Int) s1, T (some (vI r2)) s1 →
  (r2 = 0 →
    Q (some (vI (-1))) s1) ∧
  (¬ (r2 = 0) →
    ∃ T : Option AV → AS → Prop, am_M Ln d 7 [vR 70, vI a1, vI (s1 1 10)] s1 T ∧ ∀ s3, T none s3 →
    Q (some (vI (s3 70 10))) s3)) : am_M Ln (d + 1) 114 [vR 1, vI a1] σ Q :=
  am_vc_E (d := d) (m := 114) (cut := []) 14 0 (am_entry 114 [vR 1, vI a1]) [] σ h
set_option maxRecDepth 100000 in
theorem vm_X11_chosen {Ln : Int} {d : Nat} {Q : Option AV → AS → Prop} (σ : AS) (a1 a2 : Int) (h :
  ∃ T : Option AV → AS → Prop, am_M Ln d 125 [vR 1, vI a1] σ T ∧ ∀ (r2 : Int) s1, T (some (vI r2)) s1 →
  (r2 = 0 →
    Q (some (vI (-1))) s1) ∧
  (¬ (r2 = 0) →
    (a2 < 0 →
      Q (some (vI (-1))) s1) ∧
    (¬ (a2 < 0) →
      (a2 < s1 70 4 →
        ∃ T : Option AV → AS → Prop, am_M Ln d 7 [vR 70, vI a1, vI (s1 1 10)] s1 T ∧ ∀ s3, T none s3 →
        (s3 70 10 = (-1) →
          Q (some (vI (-1))) s3) ∧
        (¬ (s3 70 10 = (-1)) →
          (0 ≤ a2 ∧ a2 < 4) ∧ (Q (some (vI (s3 75 a2))) s3))) ∧
      (¬ (a2 < s1 70 4) →
        Q (some (vI (-1))) s1)))) : am_M Ln (d + 1) 115 [vR 1, vI a1, vI a2] σ Q :=
  am_vc_E (d := d) (m := 115) (cut := []) 28 0 (am_entry 115 [vR 1, vI a1, vI a2]) [] σ h
set_option maxRecDepth 100000 in
theorem vm_X11_judge {Ln : Int} {d : Nat} {Q : Option AV → AS → Prop} (σ : AS) (a1 a2 : Int) (h :
  ∃ T : Option AV → AS → Prop, am_M Ln d 125 [vR 1, vI a1] σ T ∧ ∀ (r2 : Int) s1, T (some (vI r2)) s1 →
  (r2 = 0 →
    Q (some (vI (-1))) s1) ∧
  (¬ (r2 = 0) →
    (a2 < 0 →
      Q (some (vI (-1))) s1) ∧
    (¬ (a2 < 0) →
      ∃ T : Option AV → AS → Prop, am_M Ln d 4 [vR 70] s1 T ∧ ∀ (r4 : Int) s3, T (some (vI r4)) s3 →
      (a2 < r4 →
        ∃ T : Option AV → AS → Prop, am_M Ln d 5 [vR 70, vI (s3 1 10)] s3 T ∧ ∀ s5, T none s5 →
        ∃ T : Option AV → AS → Prop, am_M Ln d 8 [vR 70, vI a2] s5 T ∧ ∀ s6, T none s6 →
        ∃ T : Option AV → AS → Prop, am_M Ln d 10 [vR 70] s6 T ∧ ∀ (r8 : Int) s7, T (some (vI r8)) s7 →
        (r8 = 0 →
          Q (some (vI (-2))) s7) ∧
        (¬ (r8 = 0) →
          ∃ T : Option AV → AS → Prop, am_M Ln d 11 [vR 70, vI a1] s7 T ∧ ∀ (r10 : Int) s9, T (some (vI r10)) s9 →
          Q (some (vI r10)) s9)) ∧
      (¬ (a2 < r4) →
        Q (some (vI (-1))) s3)))) : am_M Ln (d + 1) 116 [vR 1, vI a1, vI a2] σ Q :=
  am_vc_E (d := d) (m := 116) (cut := []) 30 0 (am_entry 116 [vR 1, vI a1, vI a2]) [] σ h
set_option maxRecDepth 100000 in
theorem vm_X11_debt {Ln : Int} {d : Nat} {Q : Option AV → AS → Prop} (σ : AS) (a1 a2 a3 a4 : Int) (h :
  ∃ T : Option AV → AS → Prop, am_M Ln d 125 [vR 1, vI a1] σ T ∧ ∀ (r2 : Int) s1, T (some (vI r2)) s1 →
  (r2 = 0 →
    Q (some (vI (-1))) s1) ∧
  (¬ (r2 = 0) →
    ∃ T : Option AV → AS → Prop, am_M Ln d 125 [vR 1, vI a2] s1 T ∧ ∀ (r4 : Int) s3, T (some (vI r4)) s3 →
    (r4 = 0 →
      Q (some (vI (-1))) s3) ∧
    (¬ (r4 = 0) →
      (a1 = a2 →
        Q (some (vI (-1))) s3) ∧
      (¬ (a1 = a2) →
        ∃ T : Option AV → AS → Prop, am_M Ln d 131 [vI a3] s3 T ∧ ∀ (r6 : Int) s5, T (some (vI r6)) s5 →
        (r6 = 0 →
          Q (some (vI (-1))) s5) ∧
        (¬ (r6 = 0) →
          (a4 < 0 →
            Q (some (vI (-1))) s5) ∧
          (¬ (a4 < 0) →
            (a4 < 4 →
              ∃ T : Option AV → AS → Prop, am_M Ln d 12 [vR 76, vI a1, vI a3, vI a4] s5 T ∧ ∀ (r8 : Int) s7, T (some (vI r8)) s7 →
              Q (some (vI r8)) s7) ∧
            (¬ (a4 < 4) →
              Q (some (vI (-1))) s5))))))) : am_M Ln (d + 1) 117 [vR 1, vI a1, vI a2, vI a3, vI a4] σ Q :=
  am_vc_E (d := d) (m := 117) (cut := []) 26 0 (am_entry 117 [vR 1, vI a1, vI a2, vI a3, vI a4]) [] σ h
set_option maxRecDepth 100000 in
theorem vm_X11_paid {Ln : Int} {d : Nat} {Q : Option AV → AS → Prop} (σ : AS) (a1 : Int) (h :
  (a1 < 0 →
    Q (some (vI (-1))) σ) ∧
  (¬ (a1 < 0) →
    (a1 < σ 76 3 →
      ∃ T : Option AV → AS → Prop, am_M Ln d 32 [vR 40, vI (σ 1 10), vI (σ 1 10)] σ T ∧ ∀ s1, T none s1 →
      (0 ≤ a1 ∧ a1 < 40) ∧ (∃ T : Option AV → AS → Prop, am_M Ln d 45 [vR 40, vI (s1 77 a1)] s1 T ∧ ∀ (r3 : Int) s2, T (some (vI r3)) s2 →
      ∃ T : Option AV → AS → Prop, am_M Ln d 13 [vR 76, vI a1, vI r3] s2 T ∧ ∀ (r5 : Int) s4, T (some (vI r5)) s4 →
      Q (some (vI r5)) s4)) ∧
    (¬ (a1 < σ 76 3) →
      Q (some (vI (-1))) σ))) : am_M Ln (d + 1) 118 [vR 1, vI a1] σ Q :=
  am_vc_E (d := d) (m := 118) (cut := []) 27 0 (am_entry 118 [vR 1, vI a1]) [] σ h
set_option maxRecDepth 100000 in
theorem vm_X11_check {Ln : Int} {d : Nat} {Q : Option AV → AS → Prop} (σ : AS) (a1 : Int) (h :
  (a1 < 0 →
    Q (some (vI (-2))) σ) ∧
  (¬ (a1 < 0) →
    ¬ (12 : Int) = 0 ∧ ((a1 ≤ w32 (Int.tdiv (σ 2 1) 12) →
      ∃ T : Option AV → AS → Prop, am_M Ln d 32 [vR 40, vI (σ 1 10), vI (σ 1 10)] σ T ∧ ∀ s1, T none s1 →
      ∃ T : Option AV → AS → Prop, am_M Ln d 122 [vR 1, vI (w32 (3 * a1))] s1 T ∧ ∀ (r3 : Int) s2, T (some (vI r3)) s2 →
      Q (some (vI r3)) (am_up s2 2 1 0)) ∧
    (¬ (a1 ≤ w32 (Int.tdiv (σ 2 1) 12)) →
      Q (some (vI (-2))) σ)))) : am_M Ln (d + 1) 119 [vR 1, vI a1] σ Q :=
  am_vc_E (d := d) (m := 119) (cut := []) 28 0 (am_entry 119 [vR 1, vI a1]) [] σ h
set_option maxRecDepth 100000 in
theorem vm_X11_look {Ln : Int} {d : Nat} {Q : Option AV → AS → Prop} (σ : AS) (a1 a2 : Int) (h :
  ∃ T : Option AV → AS → Prop, am_M Ln d 129 [vR 1, vI a1] σ T ∧ ∀ (r2 : Int) s1, T (some (vI r2)) s1 →
  (r2 = 0 →
    Q (some (vI (-1))) s1) ∧
  (¬ (r2 = 0) →
    (a2 = 0 →
      (0 ≤ a1 ∧ a1 < 100) ∧ (Q (some (vI (s1 8 a1))) s1)) ∧
    (a2 = 0 + 1 →
      (0 ≤ a1 ∧ a1 < 100) ∧ (Q (some (vI (s1 9 a1))) s1)) ∧
    (a2 = 0 + 1 + 1 →
      (0 ≤ a1 ∧ a1 < 100) ∧ (Q (some (vI (s1 10 a1))) s1)) ∧
    (a2 = 0 + 1 + 1 + 1 →
      (0 ≤ a1 ∧ a1 < 100) ∧ (Q (some (vI (s1 11 a1))) s1)) ∧
    (a2 = 0 + 1 + 1 + 1 + 1 →
      (0 ≤ a1 ∧ a1 < 100) ∧ (Q (some (vI (s1 13 a1))) s1)) ∧
    (a2 = 0 + 1 + 1 + 1 + 1 + 1 →
      (0 ≤ a1 ∧ a1 < 100) ∧ (Q (some (vI (s1 14 a1))) s1)) ∧
    (a2 = 0 + 1 + 1 + 1 + 1 + 1 + 1 →
      (0 ≤ a1 ∧ a1 < 100) ∧ (Q (some (vI (s1 15 a1))) s1)) ∧
    (a2 = 0 + 1 + 1 + 1 + 1 + 1 + 1 + 1 →
      (0 ≤ a1 ∧ a1 < 100) ∧ (Q (some (vI (s1 16 a1))) s1)) ∧
    (a2 = 0 + 1 + 1 + 1 + 1 + 1 + 1 + 1 + 1 →
      (0 ≤ a1 ∧ a1 < 100) ∧ (Q (some (vI (s1 17 a1))) s1)) ∧
    (a2 = 0 + 1 + 1 + 1 + 1 + 1 + 1 + 1 + 1 + 1 →
      (0 ≤ a1 ∧ a1 < 100) ∧ ((s1 12 a1 = 0 →
        Q (some (vI 0)) s1) ∧
      (¬ (s1 12 a1 = 0) →
        Q (some (vI 1)) s1))) ∧
    (a2 < 0 ∨ 9 < a2 →
      Q (some (vI (-1))) s1) ∧ True)) : am_M Ln (d + 1) 120 [vR 1, vI a1, vI a2] σ Q :=
  am_vc_E (d := d) (m := 120) (cut := []) 15 0 (am_entry 120 [vR 1, vI a1, vI a2]) [] σ h
set_option maxRecDepth 100000 in
theorem vm_X11_count {Ln : Int} {d : Nat} {Q : Option AV → AS → Prop} (σ : AS) (a1 : Int) (h :
  (a1 = 0 →
    Q (some (vI (σ 1 10))) σ) ∧
  (a1 = 0 + 1 →
    Q (some (vI (σ 1 11))) σ) ∧
  (a1 = 0 + 1 + 1 →
    Q (some (vI (σ 4 2))) σ) ∧
  (a1 = 0 + 1 + 1 + 1 →
    Q (some (vI (σ 1 12))) σ) ∧
  (a1 = 0 + 1 + 1 + 1 + 1 →
    Q (some (vI (σ 7 11))) σ) ∧
  (a1 = 0 + 1 + 1 + 1 + 1 + 1 →
    Q (some (vI (σ 24 14))) σ) ∧
  (a1 = 0 + 1 + 1 + 1 + 1 + 1 + 1 →
    Q (some (vI (σ 19 4))) σ) ∧
  (a1 = 0 + 1 + 1 + 1 + 1 + 1 + 1 + 1 →
    Q (some (vI (σ 76 3))) σ) ∧
  (a1 = 0 + 1 + 1 + 1 + 1 + 1 + 1 + 1 + 1 →
    Q (some (vI (σ 2 1))) σ) ∧
  (a1 = 0 + 1 + 1 + 1 + 1 + 1 + 1 + 1 + 1 + 1 →
    Q (some (vI (σ 70 4))) σ) ∧
  (a1 = 0 + 1 + 1 + 1 + 1 + 1 + 1 + 1 + 1 + 1 + 1 →
    Q (some (vI (σ 70 6))) σ) ∧
  (a1 < 0 ∨ 10 < a1 →
    ∃ T : Option AV → AS → Prop, am_M Ln d 48 [vR 24, vI a1] σ T ∧ ∀ (r2 : Int) s1, T (some (vI r2)) s1 →
    Q (some (vI r2)) s1) ∧ True) : am_M Ln (d + 1) 121 [vR 1, vI a1] σ Q :=
  am_vc_E (d := d) (m := 121) (cut := []) 7 0 (am_entry 121 [vR 1, vI a1]) [] σ h
set_option maxRecDepth 100000 in
theorem vm_X11_firstWrong {Ln : Int} {d : Nat} {Q : Option AV → AS → Prop} (σ : AS) (a1 : Int) (h :
  am_E Ln d 122 4 [vR 1, vI a1, vI 0, vI 0, vU, vU, vU] [] σ Q) : am_M Ln (d + 1) 122 [vR 1, vI a1] σ Q :=
  am_vc_E (d := d) (m := 122) (cut := [(4, [true, true, true, true, false, false, false]), (18, [true, true, true, true, true, false, false])]) 4 0 (am_entry 122 [vR 1, vI a1]) [] σ h
set_option maxRecDepth 100000 in
theorem vl_X11_firstWrong_4 {Ln : Int} {d : Nat} {Q : Option AV → AS → Prop} (σ : AS) (x1 x2 x3 : Int) (h :
  (σ 4 2 ≤ x3 →
    (x1 ≤ x2 →
      Q (some (vI (-1))) σ) ∧
    (¬ (x1 ≤ x2) →
      Q (some (vI x2)) σ)) ∧
  (¬ (σ 4 2 ≤ x3) →
    am_E Ln d 122 18 [vR 1, vI x1, vI x2, vI x3, vI 0, vU, vU] [] σ Q)) : am_E Ln d 122 4 [vR 1, vI x1, vI x2, vI x3, vU, vU, vU] [] σ Q :=
  am_vc_E (d := d) (m := 122) (cut := [(4, [true, true, true, true, false, false, false]), (18, [true, true, true, true, true, false, false])]) 11 4 [vR 1, vI x1, vI x2, vI x3, vU, vU, vU] [] σ h
set_option maxRecDepth 100000 in
theorem vl_X11_firstWrong_18 {Ln : Int} {d : Nat} {Q : Option AV → AS → Prop} (σ : AS) (x1 x2 x3 x4 : Int) (h :
  (σ 1 11 ≤ x4 →
    am_E Ln d 122 4 [vR 1, vI x1, vI x2, vI (w32 (x3 + 1)), vU, vU, vU] [] σ Q) ∧
  (¬ (σ 1 11 ≤ x4) →
    ∃ T : Option AV → AS → Prop, am_M Ln d 85 [vR 41, vI x3, vI x4] σ T ∧ ∀ (r2 : Int) s1, T (some (vI r2)) s1 →
    (r2 ≤ 0 →
      am_E Ln d 122 18 [vR 1, vI x1, vI x2, vI x3, vI (w32 (x4 + 1)), vU, vU] [] s1 Q) ∧
    (¬ (r2 ≤ 0) →
      ∃ T : Option AV → AS → Prop, am_M Ln d 123 [vR 1, vI x2, vI x3, vI x4, vI r2] s1 T ∧ ∀ (r4 : Int) s3, T (some (vI r4)) s3 →
      (x1 ≤ x2 →
        (x2 < x1 →
          Q (some (vI (w32 (x2 + r4)))) s3) ∧
        (¬ (x2 < x1) →
          Q (some (vI x1)) s3)) ∧
      (¬ (x1 ≤ x2) →
        (3 ≤ r4 →
          am_E Ln d 122 18 [vR 1, vI x1, vI (w32 (x2 + 3)), vI x3, vI (w32 (x4 + 1)), vU, vU] [] s3 Q) ∧
        (¬ (3 ≤ r4) →
          (x2 < x1 →
            Q (some (vI (w32 (x2 + r4)))) s3) ∧
          (¬ (x2 < x1) →
            Q (some (vI x1)) s3)))))) : am_E Ln d 122 18 [vR 1, vI x1, vI x2, vI x3, vI x4, vU, vU] [] σ Q :=
  am_vc_E (d := d) (m := 122) (cut := [(4, [true, true, true, true, false, false, false]), (18, [true, true, true, true, true, false, false])]) 33 18 [vR 1, vI x1, vI x2, vI x3, vI x4, vU, vU] [] σ h
set_option maxRecDepth 100000 in
theorem vm_X11_wrongInThree {Ln : Int} {d : Nat} {Q : Option AV → AS → Prop} (σ : AS) (a1 a2 a3 a4 : Int) (h :
  ∃ T : Option AV → AS → Prop, am_M Ln d 91 [vR 2, vI a1] σ T ∧ ∀ (r2 : Int) s1, T (some (vI r2)) s1 →
  (r2 = a2 →
    ∃ T : Option AV → AS → Prop, am_M Ln d 91 [vR 2, vI (w32 (a1 + 1))] s1 T ∧ ∀ (r4 : Int) s3, T (some (vI r4)) s3 →
    (r4 = a3 →
      ∃ T : Option AV → AS → Prop, am_M Ln d 91 [vR 2, vI (w32 (a1 + 2))] s3 T ∧ ∀ (r6 : Int) s5, T (some (vI r6)) s5 →
      (r6 = a4 →
        Q (some (vI 3)) s5) ∧
      (¬ (r6 = a4) →
        Q (some (vI 2)) s5)) ∧
    (¬ (r4 = a3) →
      Q (some (vI 1)) s3)) ∧
  (¬ (r2 = a2) →
    Q (some (vI 0)) s1)) : am_M Ln (d + 1) 123 [vR 1, vI a1, vI a2, vI a3, vI a4] σ Q :=
  am_vc_E (d := d) (m := 123) (cut := []) 25 0 (am_entry 123 [vR 1, vI a1, vI a2, vI a3, vI a4]) [] σ h
set_option maxRecDepth 100000 in
theorem vm_X11_mayDate {Ln : Int} {d : Nat} {Q : Option AV → AS → Prop} (σ : AS) (a1 a2 a3 : Int) (h :
  (a2 < 0 →
    ∃ T : Option AV → AS → Prop, am_M Ln d 130 [vI a1] σ T ∧ ∀ (r2 : Int) s1, T (some (vI r2)) s1 →
    (r2 = 0 →
      am_b 0 ∧ Q (some (vI 0)) s1) ∧
    (¬ (r2 = 0) →
      (s1 1 10 < a1 →
        am_b 0 ∧ Q (some (vI 0)) s1) ∧
      (¬ (s1 1 10 < a1) →
        ((0 : Int) = 0 →
          am_b 0 ∧ Q (some (vI 0)) s1) ∧
        (¬ ((0 : Int) = 0) →
          (100 ≤ s1 7 11 →
            am_b 0 ∧ Q (some (vI 0)) s1) ∧
          (¬ (100 ≤ s1 7 11) →
            am_b 1 ∧ Q (some (vI 1)) s1))))) ∧
  (¬ (a2 < 0) →
    (a3 < a2 →
      ∃ T : Option AV → AS → Prop, am_M Ln d 130 [vI a1] σ T ∧ ∀ (r4 : Int) s3, T (some (vI r4)) s3 →
      (r4 = 0 →
        am_b 0 ∧ Q (some (vI 0)) s3) ∧
      (¬ (r4 = 0) →
        (s3 1 10 < a1 →
          am_b 0 ∧ Q (some (vI 0)) s3) ∧
        (¬ (s3 1 10 < a1) →
          ((0 : Int) = 0 →
            am_b 0 ∧ Q (some (vI 0)) s3) ∧
          (¬ ((0 : Int) = 0) →
            (100 ≤ s3 7 11 →
              am_b 0 ∧ Q (some (vI 0)) s3) ∧
            (¬ (100 ≤ s3 7 11) →
              am_b 1 ∧ Q (some (vI 1)) s3))))) ∧
    (¬ (a3 < a2) →
      (23 < a3 →
        ∃ T : Option AV → AS → Prop, am_M Ln d 130 [vI a1] σ T ∧ ∀ (r6 : Int) s5, T (some (vI r6)) s5 →
        (r6 = 0 →
          am_b 0 ∧ Q (some (vI 0)) s5) ∧
        (¬ (r6 = 0) →
          (s5 1 10 < a1 →
            am_b 0 ∧ Q (some (vI 0)) s5) ∧
          (¬ (s5 1 10 < a1) →
            ((0 : Int) = 0 →
              am_b 0 ∧ Q (some (vI 0)) s5) ∧
            (¬ ((0 : Int) = 0) →
              (100 ≤ s5 7 11 →
                am_b 0 ∧ Q (some (vI 0)) s5) ∧
              (¬ (100 ≤ s5 7 11) →
                am_b 1 ∧ Q (some (vI 1)) s5))))) ∧
      (¬ (23 < a3) →
        ∃ T : Option AV → AS → Prop, am_M Ln d 130 [vI a1] σ T ∧ ∀ (r8 : Int) s7, T (some (vI r8)) s7 →
        (r8 = 0 →
          am_b 0 ∧ Q (some (vI 0)) s7) ∧
        (¬ (r8 = 0) →
          (s7 1 10 < a1 →
            am_b 0 ∧ Q (some (vI 0)) s7) ∧
          (¬ (s7 1 10 < a1) →
            ((1 : Int) = 0 →
              am_b 0 ∧ Q (some (vI 0)) s7) ∧
            (¬ ((1 : Int) = 0) →
              (100 ≤ s7 7 11 →
                am_b 0 ∧ Q (some (vI 0)) s7) ∧
              (¬ (100 ≤ s7 7 11) →
                am_b 1 ∧ Q (some (vI 1)) s7)))))))) : am_M Ln (d + 1) 124 [vR 1, vI a1, vI a2, vI a3] σ Q :=
  am_vc_E (d := d) (m := 124) (cut := []) 28 0 (am_entry 124 [vR 1, vI a1, vI a2, vI a3]) [] σ h
set_option maxRecDepth 100000 in
theorem vm_X11_isPerson {Ln : Int} {d : Nat} {Q : Option AV → AS → Prop} (σ : AS) (a1 : Int) (h :
  (a1 < 0 →
    am_b 0 ∧ Q (some (vI 0)) σ) ∧
  (¬ (a1 < 0) →
    (σ 1 11 ≤ a1 →
      am_b 0 ∧ Q (some (vI 0)) σ) ∧
    (¬ (σ 1 11 ≤ a1) →
      am_b 1 ∧ Q (some (vI 1)) σ))) : am_M Ln (d + 1) 125 [vR 1, vI a1] σ Q :=
  am_vc_E (d := d) (m := 125) (cut := []) 9 0 (am_entry 125 [vR 1, vI a1]) [] σ h
set_option maxRecDepth 100000 in
theorem vm_X11_isPersonOrAll {Ln : Int} {d : Nat} {Q : Option AV → AS → Prop} (σ : AS) (a1 : Int) (h :
  (a1 = (-1) →
    am_b 1 ∧ Q (some (vI 1)) σ) ∧
  (¬ (a1 = (-1)) →
    ∃ T : Option AV → AS → Prop, am_M Ln d 125 [vR 1, vI a1] σ T ∧ ∀ (r2 : Int) s1, T (some (vI r2)) s1 →
    (r2 = 0 →
      am_b 0 ∧ Q (some (vI 0)) s1) ∧
    (¬ (r2 = 0) →
      am_b 1 ∧ Q (some (vI 1)) s1))) : am_M Ln (d + 1) 126 [vR 1, vI a1] σ Q :=
  am_vc_E (d := d) (m := 126) (cut := []) 10 0 (am_entry 126 [vR 1, vI a1]) [] σ h
set_option maxRecDepth 100000 in
theorem vm_X11_isPurse {Ln : Int} {d : Nat} {Q : Option AV → AS → Prop} (σ : AS) (a1 : Int) (h :
  (a1 < 0 →
    am_b 0 ∧ Q (some (vI 0)) σ) ∧
  (¬ (a1 < 0) →
    (σ 4 2 ≤ a1 →
      am_b 0 ∧ Q (some (vI 0)) σ) ∧
    (¬ (σ 4 2 ≤ a1) →
      am_b 1 ∧ Q (some (vI 1)) σ))) : am_M Ln (d + 1) 127 [vR 1, vI a1] σ Q :=
  am_vc_E (d := d) (m := 127) (cut := []) 10 0 (am_entry 127 [vR 1, vI a1]) [] σ h
set_option maxRecDepth 100000 in
theorem vm_X11_isThing {Ln : Int} {d : Nat} {Q : Option AV → AS → Prop} (σ : AS) (a1 : Int) (h :
  (a1 < 0 →
    am_b 0 ∧ Q (some (vI 0)) σ) ∧
  (¬ (a1 < 0) →
    (σ 1 12 ≤ a1 →
      am_b 0 ∧ Q (some (vI 0)) σ) ∧
    (¬ (σ 1 12 ≤ a1) →
      am_b 1 ∧ Q (some (vI 1)) σ))) : am_M Ln (d + 1) 128 [vR 1, vI a1] σ Q :=
  am_vc_E (d := d) (m := 128) (cut := []) 9 0 (am_entry 128 [vR 1, vI a1]) [] σ h
set_option maxRecDepth 100000 in
theorem vm_X11_isLine {Ln : Int} {d : Nat} {Q : Option AV → AS → Prop} (σ : AS) (a1 : Int) (h :
  (a1 < 0 →
    am_b 0 ∧ Q (some (vI 0)) σ) ∧
  (¬ (a1 < 0) →
    (σ 7 11 ≤ a1 →
      am_b 0 ∧ Q (some (vI 0)) σ) ∧
    (¬ (σ 7 11 ≤ a1) →
      am_b 1 ∧ Q (some (vI 1)) σ))) : am_M Ln (d + 1) 129 [vR 1, vI a1] σ Q :=
  am_vc_E (d := d) (m := 129) (cut := []) 10 0 (am_entry 129 [vR 1, vI a1]) [] σ h
set_option maxRecDepth 100000 in
theorem vm_X11_isDay {Ln : Int} {d : Nat} {Q : Option AV → AS → Prop} (σ : AS) (a1 : Int) (h :
  (a1 < 0 →
    am_b 0 ∧ Q (some (vI 0)) σ) ∧
  (¬ (a1 < 0) →
    (3999 < a1 →
      am_b 0 ∧ Q (some (vI 0)) σ) ∧
    (¬ (3999 < a1) →
      am_b 1 ∧ Q (some (vI 1)) σ))) : am_M Ln (d + 1) 130 [vI a1] σ Q :=
  am_vc_E (d := d) (m := 130) (cut := []) 8 0 (am_entry 130 [vI a1]) [] σ h
set_option maxRecDepth 100000 in
theorem vm_X11_isSum {Ln : Int} {d : Nat} {Q : Option AV → AS → Prop} (σ : AS) (a1 : Int) (h :
  (a1 < 1 →
    am_b 0 ∧ Q (some (vI 0)) σ) ∧
  (¬ (a1 < 1) →
    (1000000 < a1 →
      am_b 0 ∧ Q (some (vI 0)) σ) ∧
    (¬ (1000000 < a1) →
      am_b 1 ∧ Q (some (vI 1)) σ))) : am_M Ln (d + 1) 131 [vI a1] σ Q :=
  am_vc_E (d := d) (m := 131) (cut := []) 9 0 (am_entry 131 [vI a1]) [] σ h
set_option maxRecDepth 100000 in
theorem vm_X11_isWay {Ln : Int} {d : Nat} {Q : Option AV → AS → Prop} (σ : AS) (a1 : Int) (h :
  (a1 < 0 →
    am_b 0 ∧ Q (some (vI 0)) σ) ∧
  (¬ (a1 < 0) →
    (5 ≤ a1 →
      am_b 0 ∧ Q (some (vI 0)) σ) ∧
    (¬ (5 ≤ a1) →
      am_b 1 ∧ Q (some (vI 1)) σ))) : am_M Ln (d + 1) 132 [vI a1] σ Q :=
  am_vc_E (d := d) (m := 132) (cut := []) 8 0 (am_entry 132 [vI a1]) [] σ h
set_option maxRecDepth 100000 in
theorem vm_a_X11_portion {Ln : Int} {d : Nat} {Q : Option AV → AS → Prop} (σ : AS) (a1 : Int) (h :
  am_E Ln d 133 5 [vI a1, vR 51, vR 52, vL 0, vU, vI 0, vU] [] σ Q) : am_M Ln (d + 1) 133 [vI a1, vR 51, vR 52] σ Q :=
  am_vc_E (d := d) (m := 133) (cut := [(5, [true, true, true, true, false, true, false]), (44, [true, true, true, true, false, true, true]), (91, [false, true, true, false, false, true, true])]) 4 0 (am_entry 133 [vI a1, vR 51, vR 52]) [] σ h
set_option maxRecDepth 100000 in
theorem vl_a_X11_portion_5 {Ln : Int} {d : Nat} {Q : Option AV → AS → Prop} (σ : AS) (x0 x3 x5 : Int) (h :
  (10 ≤ x5 →
    ∃ T : Option AV → AS → Prop, am_M Ln d 245 [vR 52, vI 0] σ T ∧ ∀ s1, T none s1 →
    (0 < lCmp x3 0 →
      am_E Ln d 133 44 [vI x0, vR 51, vR 52, vL x3, vU, vI x0, vI 0] [] s1 Q) ∧
    (¬ (0 < lCmp x3 0) →
      Q none s1)) ∧
  (¬ (10 ≤ x5) →
    (0 ≤ x5 ∧ x5 < 10) ∧ (am_E Ln d 133 5 [vI x0, vR 51, vR 52, vL (w64 (x3 + (σ 51 x5))), vU, vI (w32 (x5 + 1)), vU] [] σ Q))) : am_E Ln d 133 5 [vI x0, vR 51, vR 52, vL x3, vU, vI x5, vU] [] σ Q :=
  am_vc_E (d := d) (m := 133) (cut := [(5, [true, true, true, true, false, true, false]), (44, [true, true, true, true, false, true, true]), (91, [false, true, true, false, false, true, true])]) 15 5 [vI x0, vR 51, vR 52, vL x3, vU, vI x5, vU] [] σ h
set_option maxRecDepth 100000 in
theorem vl_a_X11_portion_44 {Ln : Int} {d : Nat} {Q : Option AV → AS → Prop} (σ : AS) (x0 x3 x5 x6 : Int) (h :
  (10 ≤ x6 →
    am_E Ln d 133 91 [vU, vR 51, vR 52, vU, vU, vI x5, vI 0] [] σ Q) ∧
  (¬ (10 ≤ x6) →
    (10 ≤ x6 →
      am_E Ln d 133 91 [vU, vR 51, vR 52, vU, vU, vI x5, vI 0] [] σ Q) ∧
    (¬ (10 ≤ x6) →
      (0 ≤ x6 ∧ x6 < 10) ∧ (¬ x3 = 0 ∧ ((0 ≤ x6 ∧ x6 < 10) ∧ ((0 ≤ x6 ∧ x6 < 10) ∧ (am_E Ln d 133 44 [vI x0, vR 51, vR 52, vL x3, vU, vI (w32 (x5 - ((am_up σ 52 x6 (w32 (w64 (Int.tdiv (w64 (x0 * (σ 51 x6))) x3)))) 52 x6))), vI (w32 (x6 + 1))] [] (am_up σ 52 x6 (w32 (w64 (Int.tdiv (w64 (x0 * (σ 51 x6))) x3)))) Q))))))) : am_E Ln d 133 44 [vI x0, vR 51, vR 52, vL x3, vU, vI x5, vI x6] [] σ Q :=
  am_vc_E (d := d) (m := 133) (cut := [(5, [true, true, true, true, false, true, false]), (44, [true, true, true, true, false, true, true]), (91, [false, true, true, false, false, true, true])]) 29 44 [vI x0, vR 51, vR 52, vL x3, vU, vI x5, vI x6] [] σ h
set_option maxRecDepth 100000 in
theorem vl_a_X11_portion_91 {Ln : Int} {d : Nat} {Q : Option AV → AS → Prop} (σ : AS) (x5 x6 : Int) (h :
  (10 ≤ x6 →
    Q none σ) ∧
  (¬ (10 ≤ x6) →
    (10 ≤ x6 →
      Q none σ) ∧
    (¬ (10 ≤ x6) →
      (x5 ≤ 0 →
        Q none σ) ∧
      (¬ (x5 ≤ 0) →
        (0 ≤ x6 ∧ x6 < 10) ∧ ((σ 51 x6 ≤ 0 →
          am_E Ln d 133 91 [vU, vR 51, vR 52, vU, vU, vI x5, vI (w32 (x6 + 1))] [] σ Q) ∧
        (¬ (σ 51 x6 ≤ 0) →
          (0 ≤ x6 ∧ x6 < 10) ∧ ((0 ≤ x6 ∧ x6 < 10) ∧ (am_E Ln d 133 91 [vU, vR 51, vR 52, vU, vU, vI (w32 (x5 + (-1))), vI (w32 (x6 + 1))] [] (am_up σ 52 x6 (w32 (σ 52 x6 + 1))) Q)))))))) : am_E Ln d 133 91 [vU, vR 51, vR 52, vU, vU, vI x5, vI x6] [] σ Q :=
  am_vc_E (d := d) (m := 133) (cut := [(5, [true, true, true, true, false, true, false]), (44, [true, true, true, true, false, true, true]), (91, [false, true, true, false, false, true, true])]) 24 91 [vU, vR 51, vR 52, vU, vU, vI x5, vI x6] [] σ h
set_option maxRecDepth 100000 in
theorem vm_b_X11_portion {Ln : Int} {d : Nat} {Q : Option AV → AS → Prop} (σ : AS) (a1 : Int) (h :
  am_E Ln d 133 5 [vI a1, vR 67, vR 68, vL 0, vU, vI 0, vU] [] σ Q) : am_M Ln (d + 1) 133 [vI a1, vR 67, vR 68] σ Q :=
  am_vc_E (d := d) (m := 133) (cut := [(5, [true, true, true, true, false, true, false]), (44, [true, true, true, true, false, true, true]), (91, [false, true, true, false, false, true, true])]) 4 0 (am_entry 133 [vI a1, vR 67, vR 68]) [] σ h
set_option maxRecDepth 100000 in
theorem vl_b_X11_portion_5 {Ln : Int} {d : Nat} {Q : Option AV → AS → Prop} (σ : AS) (x0 x3 x5 : Int) (h :
  (10 ≤ x5 →
    ∃ T : Option AV → AS → Prop, am_M Ln d 245 [vR 68, vI 0] σ T ∧ ∀ s1, T none s1 →
    (0 < lCmp x3 0 →
      am_E Ln d 133 44 [vI x0, vR 67, vR 68, vL x3, vU, vI x0, vI 0] [] s1 Q) ∧
    (¬ (0 < lCmp x3 0) →
      Q none s1)) ∧
  (¬ (10 ≤ x5) →
    (0 ≤ x5 ∧ x5 < 10) ∧ (am_E Ln d 133 5 [vI x0, vR 67, vR 68, vL (w64 (x3 + (σ 67 x5))), vU, vI (w32 (x5 + 1)), vU] [] σ Q))) : am_E Ln d 133 5 [vI x0, vR 67, vR 68, vL x3, vU, vI x5, vU] [] σ Q :=
  am_vc_E (d := d) (m := 133) (cut := [(5, [true, true, true, true, false, true, false]), (44, [true, true, true, true, false, true, true]), (91, [false, true, true, false, false, true, true])]) 15 5 [vI x0, vR 67, vR 68, vL x3, vU, vI x5, vU] [] σ h
set_option maxRecDepth 100000 in
theorem vl_b_X11_portion_44 {Ln : Int} {d : Nat} {Q : Option AV → AS → Prop} (σ : AS) (x0 x3 x5 x6 : Int) (h :
  (10 ≤ x6 →
    am_E Ln d 133 91 [vU, vR 67, vR 68, vU, vU, vI x5, vI 0] [] σ Q) ∧
  (¬ (10 ≤ x6) →
    (10 ≤ x6 →
      am_E Ln d 133 91 [vU, vR 67, vR 68, vU, vU, vI x5, vI 0] [] σ Q) ∧
    (¬ (10 ≤ x6) →
      (0 ≤ x6 ∧ x6 < 10) ∧ (¬ x3 = 0 ∧ ((0 ≤ x6 ∧ x6 < 10) ∧ ((0 ≤ x6 ∧ x6 < 10) ∧ (am_E Ln d 133 44 [vI x0, vR 67, vR 68, vL x3, vU, vI (w32 (x5 - ((am_up σ 68 x6 (w32 (w64 (Int.tdiv (w64 (x0 * (σ 67 x6))) x3)))) 68 x6))), vI (w32 (x6 + 1))] [] (am_up σ 68 x6 (w32 (w64 (Int.tdiv (w64 (x0 * (σ 67 x6))) x3)))) Q))))))) : am_E Ln d 133 44 [vI x0, vR 67, vR 68, vL x3, vU, vI x5, vI x6] [] σ Q :=
  am_vc_E (d := d) (m := 133) (cut := [(5, [true, true, true, true, false, true, false]), (44, [true, true, true, true, false, true, true]), (91, [false, true, true, false, false, true, true])]) 29 44 [vI x0, vR 67, vR 68, vL x3, vU, vI x5, vI x6] [] σ h
set_option maxRecDepth 100000 in
theorem vl_b_X11_portion_91 {Ln : Int} {d : Nat} {Q : Option AV → AS → Prop} (σ : AS) (x5 x6 : Int) (h :
  (10 ≤ x6 →
    Q none σ) ∧
  (¬ (10 ≤ x6) →
    (10 ≤ x6 →
      Q none σ) ∧
    (¬ (10 ≤ x6) →
      (x5 ≤ 0 →
        Q none σ) ∧
      (¬ (x5 ≤ 0) →
        (0 ≤ x6 ∧ x6 < 10) ∧ ((σ 67 x6 ≤ 0 →
          am_E Ln d 133 91 [vU, vR 67, vR 68, vU, vU, vI x5, vI (w32 (x6 + 1))] [] σ Q) ∧
        (¬ (σ 67 x6 ≤ 0) →
          (0 ≤ x6 ∧ x6 < 10) ∧ ((0 ≤ x6 ∧ x6 < 10) ∧ (am_E Ln d 133 91 [vU, vR 67, vR 68, vU, vU, vI (w32 (x5 + (-1))), vI (w32 (x6 + 1))] [] (am_up σ 68 x6 (w32 (σ 68 x6 + 1))) Q)))))))) : am_E Ln d 133 91 [vU, vR 67, vR 68, vU, vU, vI x5, vI x6] [] σ Q :=
  am_vc_E (d := d) (m := 133) (cut := [(5, [true, true, true, true, false, true, false]), (44, [true, true, true, true, false, true, true]), (91, [false, true, true, false, false, true, true])]) 24 91 [vU, vR 67, vR 68, vU, vU, vI x5, vI x6] [] σ h
set_option maxRecDepth 100000 in
theorem vm_c_X11_portion {Ln : Int} {d : Nat} {Q : Option AV → AS → Prop} (σ : AS) (a1 : Int) (h :
  am_E Ln d 133 5 [vI a1, vR 80, vR 81, vL 0, vU, vI 0, vU] [] σ Q) : am_M Ln (d + 1) 133 [vI a1, vR 80, vR 81] σ Q :=
  am_vc_E (d := d) (m := 133) (cut := [(5, [true, true, true, true, false, true, false]), (44, [true, true, true, true, false, true, true]), (91, [false, true, true, false, false, true, true])]) 4 0 (am_entry 133 [vI a1, vR 80, vR 81]) [] σ h
set_option maxRecDepth 100000 in
theorem vl_c_X11_portion_5 {Ln : Int} {d : Nat} {Q : Option AV → AS → Prop} (σ : AS) (x0 x3 x5 : Int) (h :
  (40 ≤ x5 →
    ∃ T : Option AV → AS → Prop, am_M Ln d 245 [vR 81, vI 0] σ T ∧ ∀ s1, T none s1 →
    (0 < lCmp x3 0 →
      am_E Ln d 133 44 [vI x0, vR 80, vR 81, vL x3, vU, vI x0, vI 0] [] s1 Q) ∧
    (¬ (0 < lCmp x3 0) →
      Q none s1)) ∧
  (¬ (40 ≤ x5) →
    (0 ≤ x5 ∧ x5 < 40) ∧ (am_E Ln d 133 5 [vI x0, vR 80, vR 81, vL (w64 (x3 + (σ 80 x5))), vU, vI (w32 (x5 + 1)), vU] [] σ Q))) : am_E Ln d 133 5 [vI x0, vR 80, vR 81, vL x3, vU, vI x5, vU] [] σ Q :=
  am_vc_E (d := d) (m := 133) (cut := [(5, [true, true, true, true, false, true, false]), (44, [true, true, true, true, false, true, true]), (91, [false, true, true, false, false, true, true])]) 15 5 [vI x0, vR 80, vR 81, vL x3, vU, vI x5, vU] [] σ h
set_option maxRecDepth 100000 in
theorem vl_c_X11_portion_44 {Ln : Int} {d : Nat} {Q : Option AV → AS → Prop} (σ : AS) (x0 x3 x5 x6 : Int) (h :
  (40 ≤ x6 →
    am_E Ln d 133 91 [vU, vR 80, vR 81, vU, vU, vI x5, vI 0] [] σ Q) ∧
  (¬ (40 ≤ x6) →
    (40 ≤ x6 →
      am_E Ln d 133 91 [vU, vR 80, vR 81, vU, vU, vI x5, vI 0] [] σ Q) ∧
    (¬ (40 ≤ x6) →
      (0 ≤ x6 ∧ x6 < 40) ∧ (¬ x3 = 0 ∧ ((0 ≤ x6 ∧ x6 < 40) ∧ ((0 ≤ x6 ∧ x6 < 40) ∧ (am_E Ln d 133 44 [vI x0, vR 80, vR 81, vL x3, vU, vI (w32 (x5 - ((am_up σ 81 x6 (w32 (w64 (Int.tdiv (w64 (x0 * (σ 80 x6))) x3)))) 81 x6))), vI (w32 (x6 + 1))] [] (am_up σ 81 x6 (w32 (w64 (Int.tdiv (w64 (x0 * (σ 80 x6))) x3)))) Q))))))) : am_E Ln d 133 44 [vI x0, vR 80, vR 81, vL x3, vU, vI x5, vI x6] [] σ Q :=
  am_vc_E (d := d) (m := 133) (cut := [(5, [true, true, true, true, false, true, false]), (44, [true, true, true, true, false, true, true]), (91, [false, true, true, false, false, true, true])]) 29 44 [vI x0, vR 80, vR 81, vL x3, vU, vI x5, vI x6] [] σ h
set_option maxRecDepth 100000 in
theorem vl_c_X11_portion_91 {Ln : Int} {d : Nat} {Q : Option AV → AS → Prop} (σ : AS) (x5 x6 : Int) (h :
  (40 ≤ x6 →
    Q none σ) ∧
  (¬ (40 ≤ x6) →
    (40 ≤ x6 →
      Q none σ) ∧
    (¬ (40 ≤ x6) →
      (x5 ≤ 0 →
        Q none σ) ∧
      (¬ (x5 ≤ 0) →
        (0 ≤ x6 ∧ x6 < 40) ∧ ((σ 80 x6 ≤ 0 →
          am_E Ln d 133 91 [vU, vR 80, vR 81, vU, vU, vI x5, vI (w32 (x6 + 1))] [] σ Q) ∧
        (¬ (σ 80 x6 ≤ 0) →
          (0 ≤ x6 ∧ x6 < 40) ∧ ((0 ≤ x6 ∧ x6 < 40) ∧ (am_E Ln d 133 91 [vU, vR 80, vR 81, vU, vU, vI (w32 (x5 + (-1))), vI (w32 (x6 + 1))] [] (am_up σ 81 x6 (w32 (σ 81 x6 + 1))) Q)))))))) : am_E Ln d 133 91 [vU, vR 80, vR 81, vU, vU, vI x5, vI x6] [] σ Q :=
  am_vc_E (d := d) (m := 133) (cut := [(5, [true, true, true, true, false, true, false]), (44, [true, true, true, true, false, true, true]), (91, [false, true, true, false, false, true, true])]) 24 91 [vU, vR 80, vR 81, vU, vU, vI x5, vI x6] [] σ h
set_option maxRecDepth 100000 in
theorem vm_45_J7_fill_53178 {Ln : Int} {d : Nat} {Q : Option AV → AS → Prop} (σ : AS) (a2 : Int) (h :
  am_E Ln d 245 5 [vR 45, vI a2, vI 0, vI 10] [] σ Q) : am_M Ln (d + 1) 245 [vR 45, vI a2] σ Q :=
  am_vc_E (d := d) (m := 245) (cut := [(5, [true, true, true, true])]) 5 0 (am_entry 245 [vR 45, vI a2]) [] σ h
set_option maxRecDepth 100000 in
theorem vl_45_J7_fill_53178_5 {Ln : Int} {d : Nat} {Q : Option AV → AS → Prop} (σ : AS) (x1 x2 x3 : Int) (h :
  (x3 ≤ x2 →
    Q none σ) ∧
  (¬ (x3 ≤ x2) →
    (0 ≤ x2 ∧ x2 < 10) ∧ (am_E Ln d 245 5 [vR 45, vI x1, vI (w32 (x2 + 1)), vI x3] [] (am_up σ 45 x2 x1) Q))) : am_E Ln d 245 5 [vR 45, vI x1, vI x2, vI x3] [] σ Q :=
  am_vc_E (d := d) (m := 245) (cut := [(5, [true, true, true, true])]) 9 5 [vR 45, vI x1, vI x2, vI x3] [] σ h
set_option maxRecDepth 100000 in
theorem vm_46_J7_fill_53178 {Ln : Int} {d : Nat} {Q : Option AV → AS → Prop} (σ : AS) (a2 : Int) (h :
  am_E Ln d 245 5 [vR 46, vI a2, vI 0, vI 100] [] σ Q) : am_M Ln (d + 1) 245 [vR 46, vI a2] σ Q :=
  am_vc_E (d := d) (m := 245) (cut := [(5, [true, true, true, true])]) 5 0 (am_entry 245 [vR 46, vI a2]) [] σ h
set_option maxRecDepth 100000 in
theorem vl_46_J7_fill_53178_5 {Ln : Int} {d : Nat} {Q : Option AV → AS → Prop} (σ : AS) (x1 x2 x3 : Int) (h :
  (x3 ≤ x2 →
    Q none σ) ∧
  (¬ (x3 ≤ x2) →
    (0 ≤ x2 ∧ x2 < 100) ∧ (am_E Ln d 245 5 [vR 46, vI x1, vI (w32 (x2 + 1)), vI x3] [] (am_up σ 46 x2 x1) Q))) : am_E Ln d 245 5 [vR 46, vI x1, vI x2, vI x3] [] σ Q :=
  am_vc_E (d := d) (m := 245) (cut := [(5, [true, true, true, true])]) 9 5 [vR 46, vI x1, vI x2, vI x3] [] σ h
set_option maxRecDepth 100000 in
theorem vm_47_J7_fill_53178 {Ln : Int} {d : Nat} {Q : Option AV → AS → Prop} (σ : AS) (a2 : Int) (h :
  am_E Ln d 245 5 [vR 47, vI a2, vI 0, vI 100] [] σ Q) : am_M Ln (d + 1) 245 [vR 47, vI a2] σ Q :=
  am_vc_E (d := d) (m := 245) (cut := [(5, [true, true, true, true])]) 5 0 (am_entry 245 [vR 47, vI a2]) [] σ h
set_option maxRecDepth 100000 in
theorem vl_47_J7_fill_53178_5 {Ln : Int} {d : Nat} {Q : Option AV → AS → Prop} (σ : AS) (x1 x2 x3 : Int) (h :
  (x3 ≤ x2 →
    Q none σ) ∧
  (¬ (x3 ≤ x2) →
    (0 ≤ x2 ∧ x2 < 100) ∧ (am_E Ln d 245 5 [vR 47, vI x1, vI (w32 (x2 + 1)), vI x3] [] (am_up σ 47 x2 x1) Q))) : am_E Ln d 245 5 [vR 47, vI x1, vI x2, vI x3] [] σ Q :=
  am_vc_E (d := d) (m := 245) (cut := [(5, [true, true, true, true])]) 9 5 [vR 47, vI x1, vI x2, vI x3] [] σ h
set_option maxRecDepth 100000 in
theorem vm_50_J7_fill_53178 {Ln : Int} {d : Nat} {Q : Option AV → AS → Prop} (σ : AS) (a2 : Int) (h :
  am_E Ln d 245 5 [vR 50, vI a2, vI 0, vI 10] [] σ Q) : am_M Ln (d + 1) 245 [vR 50, vI a2] σ Q :=
  am_vc_E (d := d) (m := 245) (cut := [(5, [true, true, true, true])]) 5 0 (am_entry 245 [vR 50, vI a2]) [] σ h
set_option maxRecDepth 100000 in
theorem vl_50_J7_fill_53178_5 {Ln : Int} {d : Nat} {Q : Option AV → AS → Prop} (σ : AS) (x1 x2 x3 : Int) (h :
  (x3 ≤ x2 →
    Q none σ) ∧
  (¬ (x3 ≤ x2) →
    (0 ≤ x2 ∧ x2 < 10) ∧ (am_E Ln d 245 5 [vR 50, vI x1, vI (w32 (x2 + 1)), vI x3] [] (am_up σ 50 x2 x1) Q))) : am_E Ln d 245 5 [vR 50, vI x1, vI x2, vI x3] [] σ Q :=
  am_vc_E (d := d) (m := 245) (cut := [(5, [true, true, true, true])]) 9 5 [vR 50, vI x1, vI x2, vI x3] [] σ h
set_option maxRecDepth 100000 in
theorem vm_51_J7_fill_53178 {Ln : Int} {d : Nat} {Q : Option AV → AS → Prop} (σ : AS) (a2 : Int) (h :
  am_E Ln d 245 5 [vR 51, vI a2, vI 0, vI 10] [] σ Q) : am_M Ln (d + 1) 245 [vR 51, vI a2] σ Q :=
  am_vc_E (d := d) (m := 245) (cut := [(5, [true, true, true, true])]) 5 0 (am_entry 245 [vR 51, vI a2]) [] σ h
set_option maxRecDepth 100000 in
theorem vl_51_J7_fill_53178_5 {Ln : Int} {d : Nat} {Q : Option AV → AS → Prop} (σ : AS) (x1 x2 x3 : Int) (h :
  (x3 ≤ x2 →
    Q none σ) ∧
  (¬ (x3 ≤ x2) →
    (0 ≤ x2 ∧ x2 < 10) ∧ (am_E Ln d 245 5 [vR 51, vI x1, vI (w32 (x2 + 1)), vI x3] [] (am_up σ 51 x2 x1) Q))) : am_E Ln d 245 5 [vR 51, vI x1, vI x2, vI x3] [] σ Q :=
  am_vc_E (d := d) (m := 245) (cut := [(5, [true, true, true, true])]) 9 5 [vR 51, vI x1, vI x2, vI x3] [] σ h
set_option maxRecDepth 100000 in
theorem vm_36_J7_fill_53178 {Ln : Int} {d : Nat} {Q : Option AV → AS → Prop} (σ : AS) (a2 : Int) (h :
  am_E Ln d 245 5 [vR 36, vI a2, vI 0, vI 20] [] σ Q) : am_M Ln (d + 1) 245 [vR 36, vI a2] σ Q :=
  am_vc_E (d := d) (m := 245) (cut := [(5, [true, true, true, true])]) 5 0 (am_entry 245 [vR 36, vI a2]) [] σ h
set_option maxRecDepth 100000 in
theorem vl_36_J7_fill_53178_5 {Ln : Int} {d : Nat} {Q : Option AV → AS → Prop} (σ : AS) (x1 x2 x3 : Int) (h :
  (x3 ≤ x2 →
    Q none σ) ∧
  (¬ (x3 ≤ x2) →
    (0 ≤ x2 ∧ x2 < 20) ∧ (am_E Ln d 245 5 [vR 36, vI x1, vI (w32 (x2 + 1)), vI x3] [] (am_up σ 36 x2 x1) Q))) : am_E Ln d 245 5 [vR 36, vI x1, vI x2, vI x3] [] σ Q :=
  am_vc_E (d := d) (m := 245) (cut := [(5, [true, true, true, true])]) 9 5 [vR 36, vI x1, vI x2, vI x3] [] σ h
set_option maxRecDepth 100000 in
theorem vm_66_J7_fill_53178 {Ln : Int} {d : Nat} {Q : Option AV → AS → Prop} (σ : AS) (a2 : Int) (h :
  am_E Ln d 245 5 [vR 66, vI a2, vI 0, vI 10] [] σ Q) : am_M Ln (d + 1) 245 [vR 66, vI a2] σ Q :=
  am_vc_E (d := d) (m := 245) (cut := [(5, [true, true, true, true])]) 5 0 (am_entry 245 [vR 66, vI a2]) [] σ h
set_option maxRecDepth 100000 in
theorem vl_66_J7_fill_53178_5 {Ln : Int} {d : Nat} {Q : Option AV → AS → Prop} (σ : AS) (x1 x2 x3 : Int) (h :
  (x3 ≤ x2 →
    Q none σ) ∧
  (¬ (x3 ≤ x2) →
    (0 ≤ x2 ∧ x2 < 10) ∧ (am_E Ln d 245 5 [vR 66, vI x1, vI (w32 (x2 + 1)), vI x3] [] (am_up σ 66 x2 x1) Q))) : am_E Ln d 245 5 [vR 66, vI x1, vI x2, vI x3] [] σ Q :=
  am_vc_E (d := d) (m := 245) (cut := [(5, [true, true, true, true])]) 9 5 [vR 66, vI x1, vI x2, vI x3] [] σ h
set_option maxRecDepth 100000 in
theorem vm_80_J7_fill_53178 {Ln : Int} {d : Nat} {Q : Option AV → AS → Prop} (σ : AS) (a2 : Int) (h :
  am_E Ln d 245 5 [vR 80, vI a2, vI 0, vI 40] [] σ Q) : am_M Ln (d + 1) 245 [vR 80, vI a2] σ Q :=
  am_vc_E (d := d) (m := 245) (cut := [(5, [true, true, true, true])]) 5 0 (am_entry 245 [vR 80, vI a2]) [] σ h
set_option maxRecDepth 100000 in
theorem vl_80_J7_fill_53178_5 {Ln : Int} {d : Nat} {Q : Option AV → AS → Prop} (σ : AS) (x1 x2 x3 : Int) (h :
  (x3 ≤ x2 →
    Q none σ) ∧
  (¬ (x3 ≤ x2) →
    (0 ≤ x2 ∧ x2 < 40) ∧ (am_E Ln d 245 5 [vR 80, vI x1, vI (w32 (x2 + 1)), vI x3] [] (am_up σ 80 x2 x1) Q))) : am_E Ln d 245 5 [vR 80, vI x1, vI x2, vI x3] [] σ Q :=
  am_vc_E (d := d) (m := 245) (cut := [(5, [true, true, true, true])]) 9 5 [vR 80, vI x1, vI x2, vI x3] [] σ h
set_option maxRecDepth 100000 in
theorem vm_81_J7_fill_53178 {Ln : Int} {d : Nat} {Q : Option AV → AS → Prop} (σ : AS) (a2 : Int) (h :
  am_E Ln d 245 5 [vR 81, vI a2, vI 0, vI 40] [] σ Q) : am_M Ln (d + 1) 245 [vR 81, vI a2] σ Q :=
  am_vc_E (d := d) (m := 245) (cut := [(5, [true, true, true, true])]) 5 0 (am_entry 245 [vR 81, vI a2]) [] σ h
set_option maxRecDepth 100000 in
theorem vl_81_J7_fill_53178_5 {Ln : Int} {d : Nat} {Q : Option AV → AS → Prop} (σ : AS) (x1 x2 x3 : Int) (h :
  (x3 ≤ x2 →
    Q none σ) ∧
  (¬ (x3 ≤ x2) →
    (0 ≤ x2 ∧ x2 < 40) ∧ (am_E Ln d 245 5 [vR 81, vI x1, vI (w32 (x2 + 1)), vI x3] [] (am_up σ 81 x2 x1) Q))) : am_E Ln d 245 5 [vR 81, vI x1, vI x2, vI x3] [] σ Q :=
  am_vc_E (d := d) (m := 245) (cut := [(5, [true, true, true, true])]) 9 5 [vR 81, vI x1, vI x2, vI x3] [] σ h
set_option maxRecDepth 100000 in
theorem vm_52_J7_fill_53178 {Ln : Int} {d : Nat} {Q : Option AV → AS → Prop} (σ : AS) (a2 : Int) (h :
  am_E Ln d 245 5 [vR 52, vI a2, vI 0, vI 10] [] σ Q) : am_M Ln (d + 1) 245 [vR 52, vI a2] σ Q :=
  am_vc_E (d := d) (m := 245) (cut := [(5, [true, true, true, true])]) 5 0 (am_entry 245 [vR 52, vI a2]) [] σ h
set_option maxRecDepth 100000 in
theorem vl_52_J7_fill_53178_5 {Ln : Int} {d : Nat} {Q : Option AV → AS → Prop} (σ : AS) (x1 x2 x3 : Int) (h :
  (x3 ≤ x2 →
    Q none σ) ∧
  (¬ (x3 ≤ x2) →
    (0 ≤ x2 ∧ x2 < 10) ∧ (am_E Ln d 245 5 [vR 52, vI x1, vI (w32 (x2 + 1)), vI x3] [] (am_up σ 52 x2 x1) Q))) : am_E Ln d 245 5 [vR 52, vI x1, vI x2, vI x3] [] σ Q :=
  am_vc_E (d := d) (m := 245) (cut := [(5, [true, true, true, true])]) 9 5 [vR 52, vI x1, vI x2, vI x3] [] σ h
set_option maxRecDepth 100000 in
theorem vm_68_J7_fill_53178 {Ln : Int} {d : Nat} {Q : Option AV → AS → Prop} (σ : AS) (a2 : Int) (h :
  am_E Ln d 245 5 [vR 68, vI a2, vI 0, vI 10] [] σ Q) : am_M Ln (d + 1) 245 [vR 68, vI a2] σ Q :=
  am_vc_E (d := d) (m := 245) (cut := [(5, [true, true, true, true])]) 5 0 (am_entry 245 [vR 68, vI a2]) [] σ h
set_option maxRecDepth 100000 in
theorem vl_68_J7_fill_53178_5 {Ln : Int} {d : Nat} {Q : Option AV → AS → Prop} (σ : AS) (x1 x2 x3 : Int) (h :
  (x3 ≤ x2 →
    Q none σ) ∧
  (¬ (x3 ≤ x2) →
    (0 ≤ x2 ∧ x2 < 10) ∧ (am_E Ln d 245 5 [vR 68, vI x1, vI (w32 (x2 + 1)), vI x3] [] (am_up σ 68 x2 x1) Q))) : am_E Ln d 245 5 [vR 68, vI x1, vI x2, vI x3] [] σ Q :=
  am_vc_E (d := d) (m := 245) (cut := [(5, [true, true, true, true])]) 9 5 [vR 68, vI x1, vI x2, vI x3] [] σ h
