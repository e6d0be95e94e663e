/-! verification conditions of the methods of the reference, printed by wip/tools/gen_vc.py -/
set_option maxRecDepth 100000 in
theorem vm_X12_lies {Ln : Int} {d : Nat} {Q : Option AV → AS → Prop} (σ : AS) (a1 a2 a3 : Int) (h :
  (lCmp a1 a2 < 0 →
    am_b 0 ∧ Q (some (vI 0)) σ) ∧
  (¬ (lCmp a1 a2 < 0) →
    (0 < lCmp a1 a3 →
      am_b 0 ∧ Q (some (vI 0)) σ) ∧
    (¬ (0 < lCmp a1 a3) →
      am_b 1 ∧ Q (some (vI 1)) σ))) : am_M Ln (d + 1) 134 [vL a1, vL a2, vL a3] σ Q :=
  am_vc_E (d := d) (m := 134) (cut := []) 11 0 (am_entry 134 [vL a1, vL a2, vL a3]) [] σ h
set_option maxRecDepth 100000 in
theorem vm_X12_has {Ln : Int} {d : Nat} {Q : Option AV → AS → Prop} (σ : AS) (a1 a2 : Int) (h :
  (bAnd (bShr a1 a2) 1 = 1 →
    am_b 1 ∧ Q (some (vI 1)) σ) ∧
  (¬ (bAnd (bShr a1 a2) 1 = 1) →
    am_b 0 ∧ Q (some (vI 0)) σ)) : am_M Ln (d + 1) 135 [vI a1, vI a2] σ Q :=
  am_vc_E (d := d) (m := 135) (cut := []) 10 0 (am_entry 135 [vI a1, vI a2]) [] σ h
set_option maxRecDepth 100000 in
theorem vm_X12_isPerson {Ln : Int} {d : Nat} {Q : Option AV → AS → Prop} (σ : AS) (a1 : Int) (h :
  ∃ T : Option AV → AS → Prop, am_M Ln d 134 [vL a1, vL 0, vL (w32 (σ 82 3 - 1))] σ T ∧ ∀ (r2 : Int) s1, T (some (vI r2)) s1 →
  am_b r2 ∧ Q (some (vI r2)) s1) : am_M Ln (d + 1) 136 [vR 82, vI a1] σ Q :=
  am_vc_E (d := d) (m := 136) (cut := []) 10 0 (am_entry 136 [vR 82, vI a1]) [] σ h
set_option maxRecDepth 100000 in
theorem vm_X12_isPurse {Ln : Int} {d : Nat} {Q : Option AV → AS → Prop} (σ : AS) (a1 : Int) (h :
  ∃ T : Option AV → AS → Prop, am_M Ln d 134 [vL a1, vL 0, vL (w32 (σ 82 4 - 1))] σ T ∧ ∀ (r2 : Int) s1, T (some (vI r2)) s1 →
  am_b r2 ∧ Q (some (vI r2)) s1) : am_M Ln (d + 1) 137 [vR 82, vI a1] σ Q :=
  am_vc_E (d := d) (m := 137) (cut := []) 10 0 (am_entry 137 [vR 82, vI a1]) [] σ h
set_option maxRecDepth 100000 in
theorem vm_X12_isThing {Ln : Int} {d : Nat} {Q : Option AV → AS → Prop} (σ : AS) (a1 : Int) (h :
  ∃ T : Option AV → AS → Prop, am_M Ln d 134 [vL a1, vL 0, vL (w32 (σ 82 5 - 1))] σ T ∧ ∀ (r2 : Int) s1, T (some (vI r2)) s1 →
  am_b r2 ∧ Q (some (vI r2)) s1) : am_M Ln (d + 1) 138 [vR 82, vI a1] σ Q :=
  am_vc_E (d := d) (m := 138) (cut := []) 10 0 (am_entry 138 [vR 82, vI a1]) [] σ h
set_option maxRecDepth 100000 in
theorem vm_X12_isDay {Ln : Int} {d : Nat} {Q : Option AV → AS → Prop} (σ : AS) (a1 : Int) (h :
  ∃ T : Option AV → AS → Prop, am_M Ln d 134 [vL a1, vL 0, vL 3999] σ T ∧ ∀ (r2 : Int) s1, T (some (vI r2)) s1 →
  am_b r2 ∧ Q (some (vI r2)) s1) : am_M Ln (d + 1) 139 [vI a1] σ Q :=
  am_vc_E (d := d) (m := 139) (cut := []) 6 0 (am_entry 139 [vI a1]) [] σ h
set_option maxRecDepth 100000 in
theorem vm_X12_now {Ln : Int} {d : Nat} {Q : Option AV → AS → Prop} (σ : AS) (a1 : Int) (h :
  ∃ T : Option AV → AS → Prop, am_M Ln d 134 [vL a1, vL (σ 82 2), vL 3999] σ T ∧ ∀ (r2 : Int) s1, T (some (vI r2)) s1 →
  (r2 = 0 →
    am_b 0 ∧ Q (some (vI 0)) s1) ∧
  (¬ (r2 = 0) →
    am_b 1 ∧ Q (some (vI 1)) (am_up s1 82 2 a1))) : am_M Ln (d + 1) 140 [vR 82, vI a1] σ Q :=
  am_vc_E (d := d) (m := 140) (cut := []) 13 0 (am_entry 140 [vR 82, vI a1]) [] σ h
set_option maxRecDepth 100000 in
theorem vm_X12_person {Ln : Int} {d : Nat} {Q : Option AV → AS → Prop} (σ : AS) (h :
  (σ 82 3 = 10 →
    Q (some (vI (-1))) σ) ∧
  (¬ (σ 82 3 = 10) →
    Q (some (vI (w32 (w32 (σ 82 3 + 1) - 1)))) (am_up σ 82 3 (w32 (σ 82 3 + 1))))) : am_M Ln (d + 1) 141 [vR 82] σ Q :=
  am_vc_E (d := d) (m := 141) (cut := []) 15 0 (am_entry 141 [vR 82]) [] σ h
set_option maxRecDepth 100000 in
theorem vm_X12_purse {Ln : Int} {d : Nat} {Q : Option AV → AS → Prop} (σ : AS) (a1 a2 : Int) (h :
  (σ 82 4 = 10 →
    Q (some (vI (-1))) σ) ∧
  (¬ (σ 82 4 = 10) →
    ∃ T : Option AV → AS → Prop, am_M Ln d 136 [vR 82, vI a1] σ T ∧ ∀ (r2 : Int) s1, T (some (vI r2)) s1 →
    (r2 = 0 →
      Q (some (vI (-1))) s1) ∧
    (¬ (r2 = 0) →
      ∃ T : Option AV → AS → Prop, am_M Ln d 134 [vL a2, vL 0, vL 3] s1 T ∧ ∀ (r4 : Int) s3, T (some (vI r4)) s3 →
      (r4 = 0 →
        Q (some (vI (-1))) s3) ∧
      (¬ (r4 = 0) →
        (0 ≤ s3 82 4 ∧ s3 82 4 < 10) ∧ ((0 ≤ s3 82 4 ∧ s3 82 4 < 10) ∧ (Q (some (vI (w32 (w32 (s3 82 4 + 1) - 1)))) (am_up (am_up (am_up s3 84 (s3 82 4) a1) 85 (s3 82 4) a2) 82 4 (w32 (s3 82 4 + 1))))))))) : am_M Ln (d + 1) 142 [vR 82, vI a1, vI a2] σ Q :=
  am_vc_E (d := d) (m := 142) (cut := []) 37 0 (am_entry 142 [vR 82, vI a1, vI a2]) [] σ h
set_option maxRecDepth 100000 in
theorem vm_X12_thing {Ln : Int} {d : Nat} {Q : Option AV → AS → Prop} (σ : AS) (h :
  (σ 82 5 = 10 →
    Q (some (vI (-1))) σ) ∧
  (¬ (σ 82 5 = 10) →
    Q (some (vI (w32 (w32 (σ 82 5 + 1) - 1)))) (am_up σ 82 5 (w32 (σ 82 5 + 1))))) : am_M Ln (d + 1) 143 [vR 82] σ Q :=
  am_vc_E (d := d) (m := 143) (cut := []) 15 0 (am_entry 143 [vR 82]) [] σ h
set_option maxRecDepth 100000 in
theorem vm_X12_adds {Ln : Int} {d : Nat} {Q : Option AV → AS → Prop} (σ : AS) (a1 a2 a3 a4 a5 a6 a7 a8 : Int) (h :
  (σ 82 6 = 100 →
    Q (some (vI (-1))) σ) ∧
  (¬ (σ 82 6 = 100) →
    ∃ T : Option AV → AS → Prop, am_M Ln d 134 [vL a4, vL 1, vL 1000000] σ T ∧ ∀ (r2 : Int) s1, T (some (vI r2)) s1 →
    (r2 = 0 →
      Q (some (vI (-1))) s1) ∧
    (¬ (r2 = 0) →
      ∃ T : Option AV → AS → Prop, am_M Ln d 134 [vL a6, vL 0, vL (s1 82 2)] s1 T ∧ ∀ (r4 : Int) s3, T (some (vI r4)) s3 →
      (r4 = 0 →
        Q (some (vI (-1))) s3) ∧
      (¬ (r4 = 0) →
        ∃ T : Option AV → AS → Prop, am_M Ln d 134 [vL a7, vL 0, vL 23] s3 T ∧ ∀ (r6 : Int) s5, T (some (vI r6)) s5 →
        (r6 = 0 →
          Q (some (vI (-1))) s5) ∧
        (¬ (r6 = 0) →
          ∃ T : Option AV → AS → Prop, am_M Ln d 134 [vL a8, vL a7, vL 23] s5 T ∧ ∀ (r8 : Int) s7, T (some (vI r8)) s7 →
          (r8 = 0 →
            Q (some (vI (-1))) s7) ∧
          (¬ (r8 = 0) →
            (0 ≤ s7 82 6 ∧ s7 82 6 < 100) ∧ ((0 ≤ s7 82 6 ∧ s7 82 6 < 100) ∧ ((0 ≤ s7 82 6 ∧ s7 82 6 < 100) ∧ ((0 ≤ s7 82 6 ∧ s7 82 6 < 100) ∧ ((0 ≤ s7 82 6 ∧ s7 82 6 < 100) ∧ ((0 ≤ s7 82 6 ∧ s7 82 6 < 100) ∧ ((0 ≤ s7 82 6 ∧ s7 82 6 < 100) ∧ ((0 ≤ s7 82 6 ∧ s7 82 6 < 100) ∧ ((0 ≤ s7 82 6 ∧ s7 82 6 < 100) ∧ ((0 ≤ s7 82 6 ∧ s7 82 6 < 100) ∧ (Q (some (vI (w32 (w32 (s7 82 6 + 1) - 1)))) (am_up (am_up (am_up (am_up (am_up (am_up (am_up (am_up (am_up (am_up (am_up s7 86 (s7 82 6) a1) 87 (s7 82 6) a2) 88 (s7 82 6) a3) 89 (s7 82 6) a4) 95 (s7 82 6) (bAnd a5 1)) 90 (s7 82 6) a6) 91 (s7 82 6) a7) 92 (s7 82 6) a8) 93 (s7 82 6) (s7 82 2)) 94 (s7 82 6) (-1)) 82 6 (w32 (s7 82 6 + 1))))))))))))))))))) : am_M Ln (d + 1) 144 [vR 82, vI a1, vI a2, vI a3, vI a4, vI a5, vI a6, vI a7, vI a8] σ Q :=
  am_vc_E (d := d) (m := 144) (cut := []) 103 0 (am_entry 144 [vR 82, vI a1, vI a2, vI a3, vI a4, vI a5, vI a6, vI a7, vI a8]) [] σ h
set_option maxRecDepth 100000 in
theorem vm_X12_line {Ln : Int} {d : Nat} {Q : Option AV → AS → Prop} (σ : AS) (a1 a2 a3 a4 a5 a6 a7 : Int) (h :
  (a1 = 0 →
    ∃ T : Option AV → AS → Prop, am_M Ln d 137 [vR 82, vI a2] σ T ∧ ∀ (r2 : Int) s1, T (some (vI r2)) s1 →
    (r2 = 0 →
      Q (some (vI (-1))) s1) ∧
    (¬ (r2 = 0) →
      (a1 = 2 →
        (a3 = (-1) →
          ∃ T : Option AV → AS → Prop, am_M Ln d 144 [vR 82, vI a1, vI a2, vI a3, vI a4, vI 0, vI a5, vI a6, vI a7] s1 T ∧ ∀ (r4 : Int) s3, T (some (vI r4)) s3 →
          Q (some (vI r4)) s3) ∧
        (¬ (a3 = (-1)) →
          Q (some (vI (-1))) s1)) ∧
      (¬ (a1 = 2) →
        ∃ T : Option AV → AS → Prop, am_M Ln d 136 [vR 82, vI a3] s1 T ∧ ∀ (r6 : Int) s5, T (some (vI r6)) s5 →
        (r6 = 0 →
          Q (some (vI (-1))) s5) ∧
        (¬ (r6 = 0) →
          ∃ T : Option AV → AS → Prop, am_M Ln d 144 [vR 82, vI a1, vI a2, vI a3, vI a4, vI 0, vI a5, vI a6, vI a7] s5 T ∧ ∀ (r8 : Int) s7, T (some (vI r8)) s7 →
          Q (some (vI r8)) s7)))) ∧
  (¬ (a1 = 0) →
    (a1 = 2 →
      ∃ T : Option AV → AS → Prop, am_M Ln d 137 [vR 82, vI a2] σ T ∧ ∀ (r10 : Int) s9, T (some (vI r10)) s9 →
      (r10 = 0 →
        Q (some (vI (-1))) s9) ∧
      (¬ (r10 = 0) →
        (a1 = 2 →
          (a3 = (-1) →
            ∃ T : Option AV → AS → Prop, am_M Ln d 144 [vR 82, vI a1, vI a2, vI a3, vI a4, vI 0, vI a5, vI a6, vI a7] s9 T ∧ ∀ (r12 : Int) s11, T (some (vI r12)) s11 →
            Q (some (vI r12)) s11) ∧
          (¬ (a3 = (-1)) →
            Q (some (vI (-1))) s9)) ∧
        (¬ (a1 = 2) →
          ∃ T : Option AV → AS → Prop, am_M Ln d 136 [vR 82, vI a3] s9 T ∧ ∀ (r14 : Int) s13, T (some (vI r14)) s13 →
          (r14 = 0 →
            Q (some (vI (-1))) s13) ∧
          (¬ (r14 = 0) →
            ∃ T : Option AV → AS → Prop, am_M Ln d 144 [vR 82, vI a1, vI a2, vI a3, vI a4, vI 0, vI a5, vI a6, vI a7] s13 T ∧ ∀ (r16 : Int) s15, T (some (vI r16)) s15 →
            Q (some (vI r16)) s15)))) ∧
    (¬ (a1 = 2) →
      (a1 = 5 →
        ∃ T : Option AV → AS → Prop, am_M Ln d 137 [vR 82, vI a2] σ T ∧ ∀ (r18 : Int) s17, T (some (vI r18)) s17 →
        (r18 = 0 →
          Q (some (vI (-1))) s17) ∧
        (¬ (r18 = 0) →
          (a1 = 2 →
            (a3 = (-1) →
              ∃ T : Option AV → AS → Prop, am_M Ln d 144 [vR 82, vI a1, vI a2, vI a3, vI a4, vI 0, vI a5, vI a6, vI a7] s17 T ∧ ∀ (r20 : Int) s19, T (some (vI r20)) s19 →
              Q (some (vI r20)) s19) ∧
            (¬ (a3 = (-1)) →
              Q (some (vI (-1))) s17)) ∧
          (¬ (a1 = 2) →
            ∃ T : Option AV → AS → Prop, am_M Ln d 136 [vR 82, vI a3] s17 T ∧ ∀ (r22 : Int) s21, T (some (vI r22)) s21 →
            (r22 = 0 →
              Q (some (vI (-1))) s21) ∧
            (¬ (r22 = 0) →
              ∃ T : Option AV → AS → Prop, am_M Ln d 144 [vR 82, vI a1, vI a2, vI a3, vI a4, vI 0, vI a5, vI a6, vI a7] s21 T ∧ ∀ (r24 : Int) s23, T (some (vI r24)) s23 →
              Q (some (vI r24)) s23)))) ∧
      (¬ (a1 = 5) →
        Q (some (vI (-1))) σ)))) : am_M Ln (d + 1) 145 [vR 82, vI a1, vI a2, vI a3, vI a4, vI a5, vI a6, vI a7] σ Q :=
  am_vc_E (d := d) (m := 145) (cut := []) 30 0 (am_entry 145 [vR 82, vI a1, vI a2, vI a3, vI a4, vI a5, vI a6, vI a7]) [] σ h
set_option maxRecDepth 100000 in
theorem vm_X12_move {Ln : Int} {d : Nat} {Q : Option AV → AS → Prop} (σ : AS) (a1 a2 a3 a4 a5 a6 a7 : Int) (h :
  ∃ T : Option AV → AS → Prop, am_M Ln d 137 [vR 82, vI a1] σ T ∧ ∀ (r2 : Int) s1, T (some (vI r2)) s1 →
  (r2 = 0 →
    Q (some (vI (-1))) s1) ∧
  (¬ (r2 = 0) →
    ∃ T : Option AV → AS → Prop, am_M Ln d 137 [vR 82, vI a2] s1 T ∧ ∀ (r4 : Int) s3, T (some (vI r4)) s3 →
    (r4 = 0 →
      Q (some (vI (-1))) s3) ∧
    (¬ (r4 = 0) →
      (a1 = a2 →
        Q (some (vI (-1))) s3) ∧
      (¬ (a1 = a2) →
        ∃ T : Option AV → AS → Prop, am_M Ln d 144 [vR 82, vI 1, vI a1, vI a2, vI a3, vI a4, vI a5, vI a6, vI a7] s3 T ∧ ∀ (r6 : Int) s5, T (some (vI r6)) s5 →
        Q (some (vI r6)) s5)))) : am_M Ln (d + 1) 146 [vR 82, vI a1, vI a2, vI a3, vI a4, vI a5, vI a6, vI a7] σ Q :=
  am_vc_E (d := d) (m := 146) (cut := []) 23 0 (am_entry 146 [vR 82, vI a1, vI a2, vI a3, vI a4, vI a5, vI a6, vI a7]) [] σ h
set_option maxRecDepth 100000 in
theorem vm_X12_deal {Ln : Int} {d : Nat} {Q : Option AV → AS → Prop} (σ : AS) (a1 a2 a3 a4 a5 a6 a7 : Int) (h :
  ∃ T : Option AV → AS → Prop, am_M Ln d 137 [vR 82, vI a2] σ T ∧ ∀ (r2 : Int) s1, T (some (vI r2)) s1 →
  (r2 = 0 →
    Q (some (vI (-1))) s1) ∧
  (¬ (r2 = 0) →
    ∃ T : Option AV → AS → Prop, am_M Ln d 138 [vR 82, vI a3] s1 T ∧ ∀ (r4 : Int) s3, T (some (vI r4)) s3 →
    (r4 = 0 →
      Q (some (vI (-1))) s3) ∧
    (¬ (r4 = 0) →
      (a1 = 0 →
        ∃ T : Option AV → AS → Prop, am_M Ln d 144 [vR 82, vI 3, vI a2, vI a3, vI a4, vI 0, vI a5, vI a6, vI a7] s3 T ∧ ∀ (r6 : Int) s5, T (some (vI r6)) s5 →
        Q (some (vI r6)) s5) ∧
      (¬ (a1 = 0) →
        ∃ T : Option AV → AS → Prop, am_M Ln d 144 [vR 82, vI 4, vI a2, vI a3, vI a4, vI 0, vI a5, vI a6, vI a7] s3 T ∧ ∀ (r8 : Int) s7, T (some (vI r8)) s7 →
        Q (some (vI r8)) s7)))) : am_M Ln (d + 1) 147 [vR 82, vI a1, vI a2, vI a3, vI a4, vI a5, vI a6, vI a7] σ Q :=
  am_vc_E (d := d) (m := 147) (cut := []) 23 0 (am_entry 147 [vR 82, vI a1, vI a2, vI a3, vI a4, vI a5, vI a6, vI a7]) [] σ h
set_option maxRecDepth 100000 in
theorem vm_X12_isLine {Ln : Int} {d : Nat} {Q : Option AV → AS → Prop} (σ : AS) (a1 : Int) (h :
  ∃ T : Option AV → AS → Prop, am_M Ln d 134 [vL a1, vL 0, vL (w32 (σ 82 6 - 1))] σ T ∧ ∀ (r2 : Int) s1, T (some (vI r2)) s1 →
  am_b r2 ∧ Q (some (vI r2)) s1) : am_M Ln (d + 1) 148 [vR 82, vI a1] σ Q :=
  am_vc_E (d := d) (m := 148) (cut := []) 10 0 (am_entry 148 [vR 82, vI a1]) [] σ h
set_option maxRecDepth 100000 in
theorem vm_X12_strike {Ln : Int} {d : Nat} {Q : Option AV → AS → Prop} (σ : AS) (a1 : Int) (h :
  ∃ T : Option AV → AS → Prop, am_M Ln d 148 [vR 82, vI a1] σ T ∧ ∀ (r2 : Int) s1, T (some (vI r2)) s1 →
  (r2 = 0 →
    am_b 0 ∧ Q (some (vI 0)) s1) ∧
  (¬ (r2 = 0) →
    (0 ≤ a1 ∧ a1 < 100) ∧ ((s1 94 a1 = (-1) →
      (0 ≤ a1 ∧ a1 < 100) ∧ (am_b 1 ∧ Q (some (vI 1)) (am_up s1 94 a1 (s1 82 2)))) ∧
    (¬ (s1 94 a1 = (-1)) →
      am_b 0 ∧ Q (some (vI 0)) s1)))) : am_M Ln (d + 1) 149 [vR 82, vI a1] σ Q :=
  am_vc_E (d := d) (m := 149) (cut := []) 18 0 (am_entry 149 [vR 82, vI a1]) [] σ h
set_option maxRecDepth 100000 in
theorem vm_X12_push {Ln : Int} {d : Nat} {Q : Option AV → AS → Prop} (σ : AS) (a1 : Int) (h :
  am_E Ln d 150 3 [vR 82, vI a1, vI 24] [] σ Q) : am_M Ln (d + 1) 150 [vR 82, vI a1] σ Q :=
  am_vc_E (d := d) (m := 150) (cut := [(3, [true, true, true])]) 2 0 (am_entry 150 [vR 82, vI a1]) [] σ h
set_option maxRecDepth 100000 in
theorem vl_X12_push_3 {Ln : Int} {d : Nat} {Q : Option AV → AS → Prop} (σ : AS) (x1 x2 : Int) (h :
  (x2 < 0 →
    Q none σ) ∧
  (¬ (x2 < 0) →
    (0 ≤ σ 82 1 ∧ σ 82 1 < 400) ∧ (am_E Ln d 150 3 [vR 82, vI x1, vI (w32 (x2 + (-8)))] [] (am_up (am_up σ 83 (σ 82 1) (w8 (w8 (bShr x1 x2)))) 82 1 (w32 (σ 82 1 + 1))) Q))) : am_E Ln d 150 3 [vR 82, vI x1, vI x2] [] σ Q :=
  am_vc_E (d := d) (m := 150) (cut := [(3, [true, true, true])]) 19 3 [vR 82, vI x1, vI x2] [] σ h
set_option maxRecDepth 100000 in
theorem vm_X12_feed {Ln : Int} {d : Nat} {Q : Option AV → AS → Prop} (σ : AS) (a1 a2 a3 a4 a5 : Int) (h :
  (w32 (σ 82 1 + 20) ≤ 400 →
    ∃ T : Option AV → AS → Prop, am_M Ln d 150 [vR 82, vI a1] σ T ∧ ∀ s1, T none s1 →
    ∃ T : Option AV → AS → Prop, am_M Ln d 150 [vR 82, vI a2] s1 T ∧ ∀ s2, T none s2 →
    ∃ T : Option AV → AS → Prop, am_M Ln d 150 [vR 82, vI a3] s2 T ∧ ∀ s3, T none s3 →
    ∃ T : Option AV → AS → Prop, am_M Ln d 150 [vR 82, vI a4] s3 T ∧ ∀ s4, T none s4 →
    ∃ T : Option AV → AS → Prop, am_M Ln d 150 [vR 82, vI a5] s4 T ∧ ∀ s5, T none s5 →
    Q (some (vI (s5 82 1))) s5) ∧
  (¬ (w32 (σ 82 1 + 20) ≤ 400) →
    Q (some (vI (-1))) σ)) : am_M Ln (d + 1) 151 [vR 82, vI a1, vI a2, vI a3, vI a4, vI a5] σ Q :=
  am_vc_E (d := d) (m := 151) (cut := []) 24 0 (am_entry 151 [vR 82, vI a1, vI a2, vI a3, vI a4, vI a5]) [] σ h
set_option maxRecDepth 100000 in
theorem vm_X12_here {Ln : Int} {d : Nat} {Q : Option AV → AS → Prop} (σ : AS) (h :
  (σ 82 36 ≤ σ 82 35 →
    Q (some (vI 0)) σ) ∧
  (¬ (σ 82 36 ≤ σ 82 35) →
    (0 ≤ σ 82 35 ∧ σ 82 35 < 400) ∧ (Q (some (vI (bAnd (σ 83 (σ 82 35)) 255))) σ))) : am_M Ln (d + 1) 152 [vR 82] σ Q :=
  am_vc_E (d := d) (m := 152) (cut := []) 14 0 (am_entry 152 [vR 82]) [] σ h
set_option maxRecDepth 100000 in
theorem vm_X12_wrongs {Ln : Int} {d : Nat} {Q : Option AV → AS → Prop} (σ : AS) (a1 a2 : Int) (h :
  (0 ≤ σ 82 37 →
    Q none (am_up σ 82 37 (w32 (w32 ((-1000) * a1) - a2)))) ∧
  (¬ (0 ≤ σ 82 37) →
    Q none (am_up σ 82 37 (σ 82 37)))) : am_M Ln (d + 1) 153 [vR 82, vI a1, vI a2] σ Q :=
  am_vc_E (d := d) (m := 153) (cut := []) 11 0 (am_entry 153 [vR 82, vI a1, vI a2]) [] σ h
set_option maxRecDepth 100000 in
theorem vm_X12_isGood {Ln : Int} {d : Nat} {Q : Option AV → AS → Prop} (σ : AS) (h :
  (σ 82 37 = 0 →
    am_b 1 ∧ Q (some (vI 1)) σ) ∧
  (¬ (σ 82 37 = 0) →
    am_b 0 ∧ Q (some (vI 0)) σ)) : am_M Ln (d + 1) 154 [vR 82] σ Q :=
  am_vc_E (d := d) (m := 154) (cut := []) 6 0 (am_entry 154 [vR 82]) [] σ h
set_option maxRecDepth 100000 in
theorem vm_X12_emit {Ln : Int} {d : Nat} {Q : Option AV → AS → Prop} (σ : AS) (a1 a2 : Int) (h :
  ∃ T : Option AV → AS → Prop, am_M Ln d 154 [vR 82] σ T ∧ ∀ (r2 : Int) s1, T (some (vI r2)) s1 →
  (r2 = 0 →
    Q none s1) ∧
  (¬ (r2 = 0) →
    (0 ≤ w32 (w32 (160 * (s1 82 7)) + (s1 82 39)) ∧ w32 (w32 (160 * (s1 82 7)) + (s1 82 39)) < 3200) ∧ ((0 ≤ w32 (w32 (160 * (s1 82 7)) + (s1 82 39)) ∧ w32 (w32 (160 * (s1 82 7)) + (s1 82 39)) < 3200) ∧ (Q none (am_up (am_up (am_up s1 106 (w32 (w32 (160 * (s1 82 7)) + (s1 82 39))) a1) 107 (w32 (w32 (160 * (s1 82 7)) + (s1 82 39))) a2) 82 39 (w32 (s1 82 39 + 1))))))) : am_M Ln (d + 1) 155 [vR 82, vI a1, vI a2] σ Q :=
  am_vc_E (d := d) (m := 155) (cut := []) 32 0 (am_entry 155 [vR 82, vI a1, vI a2]) [] σ h
set_option maxRecDepth 100000 in
theorem vm_X12_top {Ln : Int} {d : Nat} {Q : Option AV → AS → Prop} (σ : AS) (h :
  (σ 82 41 ≤ 0 →
    Q (some (vI 0)) σ) ∧
  (¬ (σ 82 41 ≤ 0) →
    (0 ≤ w32 (σ 82 41 - 1) ∧ w32 (σ 82 41 - 1) < 200) ∧ (Q (some (vI (σ 108 (w32 (σ 82 41 - 1))))) σ))) : am_M Ln (d + 1) 156 [vR 82] σ Q :=
  am_vc_E (d := d) (m := 156) (cut := []) 12 0 (am_entry 156 [vR 82]) [] σ h
set_option maxRecDepth 100000 in
theorem vm_X12_puts {Ln : Int} {d : Nat} {Q : Option AV → AS → Prop} (σ : AS) (a1 : Int) (h :
  (0 ≤ σ 82 41 ∧ σ 82 41 < 200) ∧ (Q none (am_up (am_up (am_up σ 108 (σ 82 41) a1) 82 41 (w32 (σ 82 41 + 1))) 82 35 (w32 (σ 82 35 + 1))))) : am_M Ln (d + 1) 157 [vR 82, vI a1] σ Q :=
  am_vc_E (d := d) (m := 157) (cut := []) 19 0 (am_entry 157 [vR 82, vI a1]) [] σ h
set_option maxRecDepth 100000 in
theorem vm_X12_opens {Ln : Int} {d : Nat} {Q : Option AV → AS → Prop} (σ : AS) (h :
  (σ 82 40 = 6 →
    ∃ T : Option AV → AS → Prop, am_M Ln d 153 [vR 82, vI 5, vI (σ 82 35)] σ T ∧ ∀ s1, T none s1 →
    ∃ T : Option AV → AS → Prop, am_M Ln d 152 [vR 82] (am_up s1 82 40 (w32 (s1 82 40 + 1))) T ∧ ∀ (r3 : Int) s2, T (some (vI r3)) s2 →
    ∃ T : Option AV → AS → Prop, am_M Ln d 157 [vR 82, vI r3] s2 T ∧ ∀ s4, T none s4 →
    Q none s4) ∧
  (¬ (σ 82 40 = 6) →
    ∃ T : Option AV → AS → Prop, am_M Ln d 152 [vR 82] (am_up σ 82 40 (w32 (σ 82 40 + 1))) T ∧ ∀ (r6 : Int) s5, T (some (vI r6)) s5 →
    ∃ T : Option AV → AS → Prop, am_M Ln d 157 [vR 82, vI r6] s5 T ∧ ∀ s7, T none s7 →
    Q none s7)) : am_M Ln (d + 1) 158 [vR 82] σ Q :=
  am_vc_E (d := d) (m := 158) (cut := []) 20 0 (am_entry 158 [vR 82]) [] σ h
set_option maxRecDepth 100000 in
theorem vm_X12_seesDigit {Ln : Int} {d : Nat} {Q : Option AV → AS → Prop} (σ : AS) (h :
  ∃ T : Option AV → AS → Prop, am_M Ln d 152 [vR 82] σ T ∧ ∀ (r2 : Int) s1, T (some (vI r2)) s1 →
  ∃ T : Option AV → AS → Prop, am_M Ln d 134 [vL r2, vL 48, vL 57] s1 T ∧ ∀ (r4 : Int) s3, T (some (vI r4)) s3 →
  am_b r4 ∧ Q (some (vI r4)) s3) : am_M Ln (d + 1) 159 [vR 82] σ Q :=
  am_vc_E (d := d) (m := 159) (cut := []) 7 0 (am_entry 159 [vR 82]) [] σ h
set_option maxRecDepth 100000 in
theorem vm_X12_reads {Ln : Int} {d : Nat} {Q : Option AV → AS → Prop} (σ : AS) (a1 : Int) (h :
  ∃ T : Option AV → AS → Prop, am_M Ln d 159 [vR 82] σ T ∧ ∀ (r2 : Int) s1, T (some (vI r2)) s1 →
  (r2 = 0 →
    ∃ T : Option AV → AS → Prop, am_M Ln d 153 [vR 82, vI 1, vI (s1 82 35)] s1 T ∧ ∀ s3, T none s3 →
    am_E Ln d 160 23 [vR 82, vI a1, vI (σ 82 35), vI 0] [] s3 Q) ∧
  (¬ (r2 = 0) →
    am_E Ln d 160 23 [vR 82, vI a1, vI (σ 82 35), vI 0] [] s1 Q)) : am_M Ln (d + 1) 160 [vR 82, vI a1] σ Q :=
  am_vc_E (d := d) (m := 160) (cut := [(23, [true, true, true, true])]) 13 0 (am_entry 160 [vR 82, vI a1]) [] σ h
set_option maxRecDepth 100000 in
theorem vl_X12_reads_23 {Ln : Int} {d : Nat} {Q : Option AV → AS → Prop} (σ : AS) (x1 x2 x3 : Int) (h :
  ∃ T : Option AV → AS → Prop, am_M Ln d 154 [vR 82] σ T ∧ ∀ (r2 : Int) s1, T (some (vI r2)) s1 →
  (r2 = 0 →
    (x3 ≤ x1 →
      Q (some (vI x3)) s1) ∧
    (¬ (x3 ≤ x1) →
      ∃ T : Option AV → AS → Prop, am_M Ln d 153 [vR 82, vI 3, vI x2] s1 T ∧ ∀ s3, T none s3 →
      Q (some (vI x3)) s3)) ∧
  (¬ (r2 = 0) →
    ∃ T : Option AV → AS → Prop, am_M Ln d 159 [vR 82] s1 T ∧ ∀ (r5 : Int) s4, T (some (vI r5)) s4 →
    (r5 = 0 →
      (x3 ≤ x1 →
        Q (some (vI x3)) s4) ∧
      (¬ (x3 ≤ x1) →
        ∃ T : Option AV → AS → Prop, am_M Ln d 153 [vR 82, vI 3, vI x2] s4 T ∧ ∀ s6, T none s6 →
        Q (some (vI x3)) s6)) ∧
    (¬ (r5 = 0) →
      (s4 82 35 = w32 (x2 + 6) →
        ∃ T : Option AV → AS → Prop, am_M Ln d 153 [vR 82, vI 2, vI (s4 82 35)] s4 T ∧ ∀ s7, T none s7 →
        ∃ T : Option AV → AS → Prop, am_M Ln d 152 [vR 82] s7 T ∧ ∀ (r9 : Int) s8, T (some (vI r9)) s8 →
        am_E Ln d 160 23 [vR 82, vI x1, vI x2, vI (w32 (w32 (w32 (10 * x3) + r9) - 48))] [] (am_up s8 82 35 (w32 (s8 82 35 + 1))) Q) ∧
      (¬ (s4 82 35 = w32 (x2 + 6)) →
        ∃ T : Option AV → AS → Prop, am_M Ln d 152 [vR 82] s4 T ∧ ∀ (r11 : Int) s10, T (some (vI r11)) s10 →
        am_E Ln d 160 23 [vR 82, vI x1, vI x2, vI (w32 (w32 (w32 (10 * x3) + r11) - 48))] [] (am_up s10 82 35 (w32 (s10 82 35 + 1))) Q)))) : am_E Ln d 160 23 [vR 82, vI x1, vI x2, vI x3] [] σ Q :=
  am_vc_E (d := d) (m := 160) (cut := [(23, [true, true, true, true])]) 33 23 [vR 82, vI x1, vI x2, vI x3] [] σ h
set_option maxRecDepth 100000 in
theorem vm_X12_must {Ln : Int} {d : Nat} {Q : Option AV → AS → Prop} (σ : AS) (a1 : Int) (h :
  ∃ T : Option AV → AS → Prop, am_M Ln d 152 [vR 82] σ T ∧ ∀ (r2 : Int) s1, T (some (vI r2)) s1 →
  (r2 = a1 →
    Q none (am_up s1 82 35 (w32 (s1 82 35 + 1)))) ∧
  (¬ (r2 = a1) →
    ∃ T : Option AV → AS → Prop, am_M Ln d 153 [vR 82, vI 1, vI (s1 82 35)] s1 T ∧ ∀ s3, T none s3 →
    Q none (am_up s3 82 35 (w32 (s3 82 35 + 1))))) : am_M Ln (d + 1) 161 [vR 82, vI a1] σ Q :=
  am_vc_E (d := d) (m := 161) (cut := []) 16 0 (am_entry 161 [vR 82, vI a1]) [] σ h
set_option maxRecDepth 100000 in
theorem vm_X12_isTimes {Ln : Int} {d : Nat} {Q : Option AV → AS → Prop} (σ : AS) (a1 : Int) (h :
  (a1 = 42 →
    am_b 1 ∧ Q (some (vI 1)) σ) ∧
  (¬ (a1 = 42) →
    (a1 = 47 →
      am_b 1 ∧ Q (some (vI 1)) σ) ∧
    (¬ (a1 = 47) →
      (a1 = 37 →
        am_b 1 ∧ Q (some (vI 1)) σ) ∧
      (¬ (a1 = 37) →
        am_b 0 ∧ Q (some (vI 0)) σ)))) : am_M Ln (d + 1) 162 [vI a1] σ Q :=
  am_vc_E (d := d) (m := 162) (cut := []) 12 0 (am_entry 162 [vI a1]) [] σ h
set_option maxRecDepth 100000 in
theorem vm_X12_isPlus {Ln : Int} {d : Nat} {Q : Option AV → AS → Prop} (σ : AS) (a1 : Int) (h :
  (a1 = 43 →
    am_b 1 ∧ Q (some (vI 1)) σ) ∧
  (¬ (a1 = 43) →
    (a1 = 45 →
      am_b 1 ∧ Q (some (vI 1)) σ) ∧
    (¬ (a1 = 45) →
      am_b 0 ∧ Q (some (vI 0)) σ))) : am_M Ln (d + 1) 163 [vI a1] σ Q :=
  am_vc_E (d := d) (m := 163) (cut := []) 9 0 (am_entry 163 [vI a1]) [] σ h
set_option maxRecDepth 100000 in
theorem vm_X12_isSign {Ln : Int} {d : Nat} {Q : Option AV → AS → Prop} (σ : AS) (a1 : Int) (h :
  (a1 = 60 →
    am_b 1 ∧ Q (some (vI 1)) σ) ∧
  (¬ (a1 = 60) →
    (a1 = 62 →
      am_b 1 ∧ Q (some (vI 1)) σ) ∧
    (¬ (a1 = 62) →
      (a1 = 61 →
        am_b 1 ∧ Q (some (vI 1)) σ) ∧
      (¬ (a1 = 61) →
        am_b 0 ∧ Q (some (vI 0)) σ)))) : am_M Ln (d + 1) 164 [vI a1] σ Q :=
  am_vc_E (d := d) (m := 164) (cut := []) 12 0 (am_entry 164 [vI a1]) [] σ h
set_option maxRecDepth 100000 in
theorem vm_X12_isValue {Ln : Int} {d : Nat} {Q : Option AV → AS → Prop} (σ : AS) (a1 : Int) (h :
  (a1 = 115 →
    am_b 1 ∧ Q (some (vI 1)) σ) ∧
  (¬ (a1 = 115) →
    (a1 = 100 →
      am_b 1 ∧ Q (some (vI 1)) σ) ∧
    (¬ (a1 = 100) →
      (a1 = 107 →
        am_b 1 ∧ Q (some (vI 1)) σ) ∧
      (¬ (a1 = 107) →
        (a1 = 112 →
          am_b 1 ∧ Q (some (vI 1)) σ) ∧
        (¬ (a1 = 112) →
          (a1 = 104 →
            am_b 1 ∧ Q (some (vI 1)) σ) ∧
          (¬ (a1 = 104) →
            (a1 = 116 →
              am_b 1 ∧ Q (some (vI 1)) σ) ∧
            (¬ (a1 = 116) →
              (a1 = 111 →
                am_b 1 ∧ Q (some (vI 1)) σ) ∧
              (¬ (a1 = 111) →
                (a1 = 110 →
                  am_b 1 ∧ Q (some (vI 1)) σ) ∧
                (¬ (a1 = 110) →
                  am_b 0 ∧ Q (some (vI 0)) σ))))))))) : am_M Ln (d + 1) 165 [vI a1] σ Q :=
  am_vc_E (d := d) (m := 165) (cut := []) 27 0 (am_entry 165 [vI a1]) [] σ h
set_option maxRecDepth 100000 in
theorem vm_X12_sums {Ln : Int} {d : Nat} {Q : Option AV → AS → Prop} (σ : AS) (a1 : Int) (h :
  am_E Ln d 166 0 [vR 82, vI a1] [] σ Q) : am_M Ln (d + 1) 166 [vR 82, vI a1] σ Q :=
  am_vc_E (d := d) (m := 166) (cut := [(0, [true, true])]) 0 0 (am_entry 166 [vR 82, vI a1]) [] σ h
set_option maxRecDepth 100000 in
theorem vl_X12_sums_0 {Ln : Int} {d : Nat} {Q : Option AV → AS → Prop} (σ : AS) (x1 : Int) (h :
  ∃ T : Option AV → AS → Prop, am_M Ln d 156 [vR 82] σ T ∧ ∀ (r2 : Int) s1, T (some (vI r2)) s1 →
  ∃ T : Option AV → AS → Prop, am_M Ln d 162 [vI r2] s1 T ∧ ∀ (r4 : Int) s3, T (some (vI r4)) s3 →
  (r4 = 0 →
    (x1 = 0 →
      Q none s3) ∧
    (¬ (x1 = 0) →
      ∃ T : Option AV → AS → Prop, am_M Ln d 156 [vR 82] s3 T ∧ ∀ (r6 : Int) s5, T (some (vI r6)) s5 →
      ∃ T : Option AV → AS → Prop, am_M Ln d 163 [vI r6] s5 T ∧ ∀ (r8 : Int) s7, T (some (vI r8)) s7 →
      (r8 = 0 →
        Q none s7) ∧
      (¬ (r8 = 0) →
        ∃ T : Option AV → AS → Prop, am_M Ln d 156 [vR 82] s7 T ∧ ∀ (r10 : Int) s9, T (some (vI r10)) s9 →
        ∃ T : Option AV → AS → Prop, am_M Ln d 155 [vR 82, vI r10, vI 0] s9 T ∧ ∀ s11, T none s11 →
        am_E Ln d 166 0 [vR 82, vI x1] [] (am_up s11 82 41 (w32 (s11 82 41 - 1))) Q))) ∧
  (¬ (r4 = 0) →
    ∃ T : Option AV → AS → Prop, am_M Ln d 156 [vR 82] s3 T ∧ ∀ (r13 : Int) s12, T (some (vI r13)) s12 →
    ∃ T : Option AV → AS → Prop, am_M Ln d 155 [vR 82, vI r13, vI 0] s12 T ∧ ∀ s14, T none s14 →
    am_E Ln d 166 0 [vR 82, vI x1] [] (am_up s14 82 41 (w32 (s14 82 41 - 1))) Q)) : am_E Ln d 166 0 [vR 82, vI x1] [] σ Q :=
  am_vc_E (d := d) (m := 166) (cut := [(0, [true, true])]) 22 0 [vR 82, vI x1] [] σ h
set_option maxRecDepth 100000 in
theorem vm_X12_joins {Ln : Int} {d : Nat} {Q : Option AV → AS → Prop} (σ : AS) (a1 : Int) (h :
  am_E Ln d 167 0 [vR 82, vI a1] [] σ Q) : am_M Ln (d + 1) 167 [vR 82, vI a1] σ Q :=
  am_vc_E (d := d) (m := 167) (cut := [(0, [true, true])]) 0 0 (am_entry 167 [vR 82, vI a1]) [] σ h
set_option maxRecDepth 100000 in
theorem vl_X12_joins_0 {Ln : Int} {d : Nat} {Q : Option AV → AS → Prop} (σ : AS) (x1 : Int) (h :
  ∃ T : Option AV → AS → Prop, am_M Ln d 156 [vR 82] σ T ∧ ∀ (r2 : Int) s1, T (some (vI r2)) s1 →
  (r2 = 38 →
    ∃ T : Option AV → AS → Prop, am_M Ln d 156 [vR 82] s1 T ∧ ∀ (r4 : Int) s3, T (some (vI r4)) s3 →
    ∃ T : Option AV → AS → Prop, am_M Ln d 155 [vR 82, vI r4, vI 0] s3 T ∧ ∀ s5, T none s5 →
    am_E Ln d 167 0 [vR 82, vI x1] [] (am_up s5 82 41 (w32 (s5 82 41 - 1))) Q) ∧
  (¬ (r2 = 38) →
    (x1 = 0 →
      Q none s1) ∧
    (¬ (x1 = 0) →
      ∃ T : Option AV → AS → Prop, am_M Ln d 156 [vR 82] s1 T ∧ ∀ (r7 : Int) s6, T (some (vI r7)) s6 →
      (r7 = 124 →
        ∃ T : Option AV → AS → Prop, am_M Ln d 156 [vR 82] s6 T ∧ ∀ (r9 : Int) s8, T (some (vI r9)) s8 →
        ∃ T : Option AV → AS → Prop, am_M Ln d 155 [vR 82, vI r9, vI 0] s8 T ∧ ∀ s10, T none s10 →
        am_E Ln d 167 0 [vR 82, vI x1] [] (am_up s10 82 41 (w32 (s10 82 41 - 1))) Q) ∧
      (¬ (r7 = 124) →
        Q none s6)))) : am_E Ln d 167 0 [vR 82, vI x1] [] σ Q :=
  am_vc_E (d := d) (m := 167) (cut := [(0, [true, true])]) 22 0 [vR 82, vI x1] [] σ h
set_option maxRecDepth 100000 in
theorem vm_X12_ends {Ln : Int} {d : Nat} {Q : Option AV → AS → Prop} (σ : AS) (h :
  am_E Ln d 168 0 [vR 82] [] σ Q) : am_M Ln (d + 1) 168 [vR 82] σ Q :=
  am_vc_E (d := d) (m := 168) (cut := [(0, [true])]) 0 0 (am_entry 168 [vR 82]) [] σ h
set_option maxRecDepth 100000 in
theorem vl_X12_ends_0 {Ln : Int} {d : Nat} {Q : Option AV → AS → Prop} (σ : AS) (h :
  ∃ T : Option AV → AS → Prop, am_M Ln d 156 [vR 82] σ T ∧ ∀ (r2 : Int) s1, T (some (vI r2)) s1 →
  (r2 = 33 →
    ∃ T : Option AV → AS → Prop, am_M Ln d 155 [vR 82, vI 2, vI 0] s1 T ∧ ∀ s3, T none s3 →
    am_E Ln d 168 0 [vR 82] [] (am_up (am_up s3 82 41 (w32 (s3 82 41 - 1))) 82 40 (w32 (s3 82 40 - 1))) Q) ∧
  (¬ (r2 = 33) →
    Q none s1)) : am_E Ln d 168 0 [vR 82] [] σ Q :=
  am_vc_E (d := d) (m := 168) (cut := [(0, [true])]) 21 0 [vR 82] [] σ h
set_option maxRecDepth 100000 in
theorem vm_X12_factor {Ln : Int} {d : Nat} {Q : Option AV → AS → Prop} (σ : AS) (h :
  am_E Ln d 169 0 [vR 82] [] σ Q) : am_M Ln (d + 1) 169 [vR 82] σ Q :=
  am_vc_E (d := d) (m := 169) (cut := [(0, [true])]) 0 0 (am_entry 169 [vR 82]) [] σ h
set_option maxRecDepth 100000 in
theorem vl_X12_factor_0 {Ln : Int} {d : Nat} {Q : Option AV → AS → Prop} (σ : AS) (h :
  ∃ T : Option AV → AS → Prop, am_M Ln d 154 [vR 82] σ T ∧ ∀ (r2 : Int) s1, T (some (vI r2)) s1 →
  (r2 = 0 →
    ∃ T : Option AV → AS → Prop, am_M Ln d 154 [vR 82] s1 T ∧ ∀ (r4 : Int) s3, T (some (vI r4)) s3 →
    (r4 = 0 →
      Q none s3) ∧
    (¬ (r4 = 0) →
      ∃ T : Option AV → AS → Prop, am_M Ln d 159 [vR 82] s3 T ∧ ∀ (r6 : Int) s5, T (some (vI r6)) s5 →
      (r6 = 0 →
        ∃ T : Option AV → AS → Prop, am_M Ln d 152 [vR 82] s5 T ∧ ∀ (r8 : Int) s7, T (some (vI r8)) s7 →
        ∃ T : Option AV → AS → Prop, am_M Ln d 165 [vI r8] s7 T ∧ ∀ (r10 : Int) s9, T (some (vI r10)) s9 →
        (r10 = 0 →
          ∃ T : Option AV → AS → Prop, am_M Ln d 153 [vR 82, vI 1, vI (s9 82 35)] s9 T ∧ ∀ s11, T none s11 →
          Q none s11) ∧
        (¬ (r10 = 0) →
          ∃ T : Option AV → AS → Prop, am_M Ln d 152 [vR 82] s9 T ∧ ∀ (r13 : Int) s12, T (some (vI r13)) s12 →
          ∃ T : Option AV → AS → Prop, am_M Ln d 155 [vR 82, vI 1, vI r13] s12 T ∧ ∀ s14, T none s14 →
          Q none (am_up s14 82 35 (w32 (s14 82 35 + 1))))) ∧
      (¬ (r6 = 0) →
        ∃ T : Option AV → AS → Prop, am_M Ln d 160 [vR 82, vI 999999] s5 T ∧ ∀ (r16 : Int) s15, T (some (vI r16)) s15 →
        ∃ T : Option AV → AS → Prop, am_M Ln d 155 [vR 82, vI 0, vI r16] s15 T ∧ ∀ s17, T none s17 →
        Q none s17))) ∧
  (¬ (r2 = 0) →
    ∃ T : Option AV → AS → Prop, am_M Ln d 152 [vR 82] s1 T ∧ ∀ (r19 : Int) s18, T (some (vI r19)) s18 →
    (r19 = 91 →
      ∃ T : Option AV → AS → Prop, am_M Ln d 158 [vR 82] s18 T ∧ ∀ s20, T none s20 →
      am_E Ln d 169 0 [vR 82] [] s20 Q) ∧
    (¬ (r19 = 91) →
      ∃ T : Option AV → AS → Prop, am_M Ln d 154 [vR 82] s18 T ∧ ∀ (r22 : Int) s21, T (some (vI r22)) s21 →
      (r22 = 0 →
        Q none s21) ∧
      (¬ (r22 = 0) →
        ∃ T : Option AV → AS → Prop, am_M Ln d 159 [vR 82] s21 T ∧ ∀ (r24 : Int) s23, T (some (vI r24)) s23 →
        (r24 = 0 →
          ∃ T : Option AV → AS → Prop, am_M Ln d 152 [vR 82] s23 T ∧ ∀ (r26 : Int) s25, T (some (vI r26)) s25 →
          ∃ T : Option AV → AS → Prop, am_M Ln d 165 [vI r26] s25 T ∧ ∀ (r28 : Int) s27, T (some (vI r28)) s27 →
          (r28 = 0 →
            ∃ T : Option AV → AS → Prop, am_M Ln d 153 [vR 82, vI 1, vI (s27 82 35)] s27 T ∧ ∀ s29, T none s29 →
            Q none s29) ∧
          (¬ (r28 = 0) →
            ∃ T : Option AV → AS → Prop, am_M Ln d 152 [vR 82] s27 T ∧ ∀ (r31 : Int) s30, T (some (vI r31)) s30 →
            ∃ T : Option AV → AS → Prop, am_M Ln d 155 [vR 82, vI 1, vI r31] s30 T ∧ ∀ s32, T none s32 →
            Q none (am_up s32 82 35 (w32 (s32 82 35 + 1))))) ∧
        (¬ (r24 = 0) →
          ∃ T : Option AV → AS → Prop, am_M Ln d 160 [vR 82, vI 999999] s23 T ∧ ∀ (r34 : Int) s33, T (some (vI r34)) s33 →
          ∃ T : Option AV → AS → Prop, am_M Ln d 155 [vR 82, vI 0, vI r34] s33 T ∧ ∀ s35, T none s35 →
          Q none s35))))) : am_E Ln d 169 0 [vR 82] [] σ Q :=
  am_vc_E (d := d) (m := 169) (cut := [(0, [true])]) 30 0 [vR 82] [] σ h
set_option maxRecDepth 100000 in
theorem vm_X12_goesOn {Ln : Int} {d : Nat} {Q : Option AV → AS → Prop} (σ : AS) (h :
  ∃ T : Option AV → AS → Prop, am_M Ln d 152 [vR 82] σ T ∧ ∀ (r2 : Int) s1, T (some (vI r2)) s1 →
  ∃ T : Option AV → AS → Prop, am_M Ln d 162 [vI r2] s1 T ∧ ∀ (r4 : Int) s3, T (some (vI r4)) s3 →
  (r4 = 0 →
    ∃ T : Option AV → AS → Prop, am_M Ln d 163 [vI r2] s3 T ∧ ∀ (r6 : Int) s5, T (some (vI r6)) s5 →
    (r6 = 0 →
      ∃ T : Option AV → AS → Prop, am_M Ln d 166 [vR 82, vI 1] s5 T ∧ ∀ s7, T none s7 →
      (r2 = 93 →
        ∃ T : Option AV → AS → Prop, am_M Ln d 156 [vR 82] s7 T ∧ ∀ (r9 : Int) s8, T (some (vI r9)) s8 →
        (r9 = 91 →
          am_b 1 ∧ (am_b 1 ∧ Q (some (vI 1)) (am_up (am_up (am_up (am_up s8 82 41 (w32 (s8 82 41 - 1))) 82 40 (w32 (s8 82 40 - 1))) 82 35 (w32 (s8 82 35 + 1))) 82 43 1))) ∧
        (¬ (r9 = 91) →
          ∃ T : Option AV → AS → Prop, am_M Ln d 153 [vR 82, vI 1, vI (s8 82 35)] s8 T ∧ ∀ s10, T none s10 →
          am_b 0 ∧ Q (some (vI 0)) s10)) ∧
      (¬ (r2 = 93) →
        ∃ T : Option AV → AS → Prop, am_M Ln d 164 [vI r2] s7 T ∧ ∀ (r12 : Int) s11, T (some (vI r12)) s11 →
        (r12 = 0 →
          ∃ T : Option AV → AS → Prop, am_M Ln d 156 [vR 82] s11 T ∧ ∀ (r14 : Int) s13, T (some (vI r14)) s13 →
          ∃ T : Option AV → AS → Prop, am_M Ln d 164 [vI r14] s13 T ∧ ∀ (r16 : Int) s15, T (some (vI r16)) s15 →
          (r16 = 0 →
            ∃ T : Option AV → AS → Prop, am_M Ln d 153 [vR 82, vI 1, vI (s15 82 35)] s15 T ∧ ∀ s17, T none s17 →
            am_b 0 ∧ Q (some (vI 0)) s17) ∧
          (¬ (r16 = 0) →
            ∃ T : Option AV → AS → Prop, am_M Ln d 156 [vR 82] s15 T ∧ ∀ (r19 : Int) s18, T (some (vI r19)) s18 →
            ∃ T : Option AV → AS → Prop, am_M Ln d 155 [vR 82, vI r19, vI 0] s18 T ∧ ∀ s20, T none s20 →
            am_b 0 ∧ Q (some (vI 0)) (am_up s20 82 41 (w32 (s20 82 41 - 1))))) ∧
        (¬ (r12 = 0) →
          ∃ T : Option AV → AS → Prop, am_M Ln d 156 [vR 82] s11 T ∧ ∀ (r22 : Int) s21, T (some (vI r22)) s21 →
          (r22 = 91 →
            ∃ T : Option AV → AS → Prop, am_M Ln d 153 [vR 82, vI 1, vI (s21 82 35)] s21 T ∧ ∀ s23, T none s23 →
            ∃ T : Option AV → AS → Prop, am_M Ln d 157 [vR 82, vI r2] s23 T ∧ ∀ s24, T none s24 →
            am_b 1 ∧ Q (some (vI 1)) s24) ∧
          (¬ (r22 = 91) →
            ∃ T : Option AV → AS → Prop, am_M Ln d 156 [vR 82] s21 T ∧ ∀ (r26 : Int) s25, T (some (vI r26)) s25 →
            ∃ T : Option AV → AS → Prop, am_M Ln d 164 [vI r26] s25 T ∧ ∀ (r28 : Int) s27, T (some (vI r28)) s27 →
            (r28 = 0 →
              ∃ T : Option AV → AS → Prop, am_M Ln d 157 [vR 82, vI r2] s27 T ∧ ∀ s29, T none s29 →
              am_b 1 ∧ Q (some (vI 1)) s29) ∧
            (¬ (r28 = 0) →
              ∃ T : Option AV → AS → Prop, am_M Ln d 153 [vR 82, vI 1, vI (s27 82 35)] s27 T ∧ ∀ s30, T none s30 →
              ∃ T : Option AV → AS → Prop, am_M Ln d 157 [vR 82, vI r2] s30 T ∧ ∀ s31, T none s31 →
              am_b 1 ∧ Q (some (vI 1)) s31))))) ∧
    (¬ (r6 = 0) →
      ∃ T : Option AV → AS → Prop, am_M Ln d 163 [vI r2] s5 T ∧ ∀ (r33 : Int) s32, T (some (vI r33)) s32 →
      ∃ T : Option AV → AS → Prop, am_M Ln d 166 [vR 82, vI r33] s32 T ∧ ∀ s34, T none s34 →
      ∃ T : Option AV → AS → Prop, am_M Ln d 157 [vR 82, vI r2] s34 T ∧ ∀ s35, T none s35 →
      am_b 1 ∧ Q (some (vI 1)) s35)) ∧
  (¬ (r4 = 0) →
    ∃ T : Option AV → AS → Prop, am_M Ln d 163 [vI r2] s3 T ∧ ∀ (r37 : Int) s36, T (some (vI r37)) s36 →
    ∃ T : Option AV → AS → Prop, am_M Ln d 166 [vR 82, vI r37] s36 T ∧ ∀ s38, T none s38 →
    ∃ T : Option AV → AS → Prop, am_M Ln d 157 [vR 82, vI r2] s38 T ∧ ∀ s39, T none s39 →
    am_b 1 ∧ Q (some (vI 1)) s39)) : am_M Ln (d + 1) 170 [vR 82] σ Q :=
  am_vc_E (d := d) (m := 170) (cut := []) 42 0 (am_entry 170 [vR 82]) [] σ h
set_option maxRecDepth 100000 in
theorem vm_X12_piece {Ln : Int} {d : Nat} {Q : Option AV → AS → Prop} (σ : AS) (h :
  am_E Ln d 171 0 [vR 82, vU] [] σ Q) : am_M Ln (d + 1) 171 [vR 82] σ Q :=
  am_vc_E (d := d) (m := 171) (cut := [(0, [true, false]), (39, [true, true])]) 0 0 (am_entry 171 [vR 82]) [] σ h
set_option maxRecDepth 100000 in
theorem vl_X12_piece_0 {Ln : Int} {d : Nat} {Q : Option AV → AS → Prop} (σ : AS) (h :
  ∃ T : Option AV → AS → Prop, am_M Ln d 154 [vR 82] σ T ∧ ∀ (r2 : Int) s1, T (some (vI r2)) s1 →
  (r2 = 0 →
    am_b 0 ∧ (am_E Ln d 171 39 [vR 82, vI 1] [] (am_up s1 82 43 0) Q)) ∧
  (¬ (r2 = 0) →
    ∃ T : Option AV → AS → Prop, am_M Ln d 152 [vR 82] s1 T ∧ ∀ (r4 : Int) s3, T (some (vI r4)) s3 →
    (r4 = 33 →
      ∃ T : Option AV → AS → Prop, am_M Ln d 158 [vR 82] s3 T ∧ ∀ s5, T none s5 →
      am_E Ln d 171 0 [vR 82, vU] [] s5 Q) ∧
    (¬ (r4 = 33) →
      ∃ T : Option AV → AS → Prop, am_M Ln d 152 [vR 82] s3 T ∧ ∀ (r7 : Int) s6, T (some (vI r7)) s6 →
      (r7 = 40 →
        ∃ T : Option AV → AS → Prop, am_M Ln d 158 [vR 82] s6 T ∧ ∀ s8, T none s8 →
        am_E Ln d 171 0 [vR 82, vU] [] s8 Q) ∧
      (¬ (r7 = 40) →
        am_b 0 ∧ (am_E Ln d 171 39 [vR 82, vI 1] [] (am_up s6 82 43 0) Q))))) : am_E Ln d 171 0 [vR 82, vU] [] σ Q :=
  am_vc_E (d := d) (m := 171) (cut := [(0, [true, false]), (39, [true, true])]) 16 0 [vR 82, vU] [] σ h
set_option maxRecDepth 100000 in
theorem vl_X12_piece_39 {Ln : Int} {d : Nat} {Q : Option AV → AS → Prop} (σ : AS) (x1 : Int) (h :
  (x1 = 0 →
    ∃ T : Option AV → AS → Prop, am_M Ln d 154 [vR 82] σ T ∧ ∀ (r2 : Int) s1, T (some (vI r2)) s1 →
    (r2 = 0 →
      Q none s1) ∧
    (¬ (r2 = 0) →
      ∃ T : Option AV → AS → Prop, am_M Ln d 168 [vR 82] s1 T ∧ ∀ s3, T none s3 →
      Q none s3)) ∧
  (¬ (x1 = 0) →
    ∃ T : Option AV → AS → Prop, am_M Ln d 154 [vR 82] σ T ∧ ∀ (r5 : Int) s4, T (some (vI r5)) s4 →
    (r5 = 0 →
      ∃ T : Option AV → AS → Prop, am_M Ln d 154 [vR 82] s4 T ∧ ∀ (r7 : Int) s6, T (some (vI r7)) s6 →
      (r7 = 0 →
        Q none s6) ∧
      (¬ (r7 = 0) →
        ∃ T : Option AV → AS → Prop, am_M Ln d 168 [vR 82] s6 T ∧ ∀ s8, T none s8 →
        Q none s8)) ∧
    (¬ (r5 = 0) →
      (s4 82 43 = 0 →
        ∃ T : Option AV → AS → Prop, am_M Ln d 169 [vR 82] s4 T ∧ ∀ s9, T none s9 →
        am_b 0 ∧ (∃ T : Option AV → AS → Prop, am_M Ln d 154 [vR 82] (am_up s9 82 43 0) T ∧ ∀ (r11 : Int) s10, T (some (vI r11)) s10 →
        (r11 = 0 →
          am_E Ln d 171 39 [vR 82, vI 0] [] s10 Q) ∧
        (¬ (r11 = 0) →
          ∃ T : Option AV → AS → Prop, am_M Ln d 170 [vR 82] s10 T ∧ ∀ (r13 : Int) s12, T (some (vI r13)) s12 →
          (r13 = 0 →
            am_E Ln d 171 39 [vR 82, vI 0] [] s12 Q) ∧
          (¬ (r13 = 0) →
            am_E Ln d 171 39 [vR 82, vI 1] [] s12 Q)))) ∧
      (¬ (s4 82 43 = 0) →
        am_b 0 ∧ (∃ T : Option AV → AS → Prop, am_M Ln d 154 [vR 82] (am_up s4 82 43 0) T ∧ ∀ (r15 : Int) s14, T (some (vI r15)) s14 →
        (r15 = 0 →
          am_E Ln d 171 39 [vR 82, vI 0] [] s14 Q) ∧
        (¬ (r15 = 0) →
          ∃ T : Option AV → AS → Prop, am_M Ln d 170 [vR 82] s14 T ∧ ∀ (r17 : Int) s16, T (some (vI r17)) s16 →
          (r17 = 0 →
            am_E Ln d 171 39 [vR 82, vI 0] [] s16 Q) ∧
          (¬ (r17 = 0) →
            am_E Ln d 171 39 [vR 82, vI 1] [] s16 Q))))))) : am_E Ln d 171 39 [vR 82, vI x1] [] σ Q :=
  am_vc_E (d := d) (m := 171) (cut := [(0, [true, false]), (39, [true, true])]) 23 39 [vR 82, vI x1] [] σ h
set_option maxRecDepth 100000 in
theorem vm_X12_goesBehind {Ln : Int} {d : Nat} {Q : Option AV → AS → Prop} (σ : AS) (h :
  ∃ T : Option AV → AS → Prop, am_M Ln d 152 [vR 82] σ T ∧ ∀ (r2 : Int) s1, T (some (vI r2)) s1 →
  (r2 = 38 →
    (r2 = 124 →
      ∃ T : Option AV → AS → Prop, am_M Ln d 167 [vR 82, vI 1] s1 T ∧ ∀ s3, T none s3 →
      ∃ T : Option AV → AS → Prop, am_M Ln d 157 [vR 82, vI r2] s3 T ∧ ∀ s4, T none s4 →
      am_b 1 ∧ Q (some (vI 1)) s4) ∧
    (¬ (r2 = 124) →
      ∃ T : Option AV → AS → Prop, am_M Ln d 167 [vR 82, vI 0] s1 T ∧ ∀ s5, T none s5 →
      ∃ T : Option AV → AS → Prop, am_M Ln d 157 [vR 82, vI r2] s5 T ∧ ∀ s6, T none s6 →
      am_b 1 ∧ Q (some (vI 1)) s6)) ∧
  (¬ (r2 = 38) →
    (r2 = 124 →
      (r2 = 124 →
        ∃ T : Option AV → AS → Prop, am_M Ln d 167 [vR 82, vI 1] s1 T ∧ ∀ s7, T none s7 →
        ∃ T : Option AV → AS → Prop, am_M Ln d 157 [vR 82, vI r2] s7 T ∧ ∀ s8, T none s8 →
        am_b 1 ∧ Q (some (vI 1)) s8) ∧
      (¬ (r2 = 124) →
        ∃ T : Option AV → AS → Prop, am_M Ln d 167 [vR 82, vI 0] s1 T ∧ ∀ s9, T none s9 →
        ∃ T : Option AV → AS → Prop, am_M Ln d 157 [vR 82, vI r2] s9 T ∧ ∀ s10, T none s10 →
        am_b 1 ∧ Q (some (vI 1)) s10)) ∧
    (¬ (r2 = 124) →
      (r2 = 41 →
        ∃ T : Option AV → AS → Prop, am_M Ln d 167 [vR 82, vI 1] s1 T ∧ ∀ s11, T none s11 →
        (w32 (s11 82 41 - 1) = 0 →
          am_b 1 ∧ (((1 : Int) = 0 →
            ∃ T : Option AV → AS → Prop, am_M Ln d 168 [vR 82] (am_up (am_up (am_up (am_up s11 82 41 (w32 (s11 82 41 - 1))) 82 40 (w32 (s11 82 40 - 1))) 82 35 (w32 (s11 82 35 + 1))) 82 42 1) T ∧ ∀ s12, T none s12 →
            am_b 0 ∧ Q (some (vI 0)) s12) ∧
          (¬ ((1 : Int) = 0) →
            am_b 0 ∧ Q (some (vI 0)) (am_up (am_up (am_up (am_up s11 82 41 (w32 (s11 82 41 - 1))) 82 40 (w32 (s11 82 40 - 1))) 82 35 (w32 (s11 82 35 + 1))) 82 42 1)))) ∧
        (¬ (w32 (s11 82 41 - 1) = 0) →
          am_b 0 ∧ (((0 : Int) = 0 →
            ∃ T : Option AV → AS → Prop, am_M Ln d 168 [vR 82] (am_up (am_up (am_up (am_up s11 82 41 (w32 (s11 82 41 - 1))) 82 40 (w32 (s11 82 40 - 1))) 82 35 (w32 (s11 82 35 + 1))) 82 42 0) T ∧ ∀ s13, T none s13 →
            am_b 0 ∧ Q (some (vI 0)) s13) ∧
          (¬ ((0 : Int) = 0) →
            am_b 0 ∧ Q (some (vI 0)) (am_up (am_up (am_up (am_up s11 82 41 (w32 (s11 82 41 - 1))) 82 40 (w32 (s11 82 40 - 1))) 82 35 (w32 (s11 82 35 + 1))) 82 42 0))))) ∧
      (¬ (r2 = 41) →
        ∃ T : Option AV → AS → Prop, am_M Ln d 153 [vR 82, vI 1, vI (s1 82 35)] s1 T ∧ ∀ s14, T none s14 →
        am_b 0 ∧ Q (some (vI 0)) s14)))) : am_M Ln (d + 1) 172 [vR 82] σ Q :=
  am_vc_E (d := d) (m := 172) (cut := []) 47 0 (am_entry 172 [vR 82]) [] σ h
set_option maxRecDepth 100000 in
theorem vm_X12_condition {Ln : Int} {d : Nat} {Q : Option AV → AS → Prop} (σ : AS) (h :
  am_b 0 ∧ (∃ T : Option AV → AS → Prop, am_M Ln d 152 [vR 82] (am_up (am_up (am_up σ 82 41 0) 82 40 0) 82 42 0) T ∧ ∀ (r2 : Int) s1, T (some (vI r2)) s1 →
  (r2 = 40 →
    ∃ T : Option AV → AS → Prop, am_M Ln d 154 [vR 82] s1 T ∧ ∀ (r4 : Int) s3, T (some (vI r4)) s3 →
    (r4 = 0 →
      Q none s3) ∧
    (¬ (r4 = 0) →
      ∃ T : Option AV → AS → Prop, am_M Ln d 158 [vR 82] s3 T ∧ ∀ s5, T none s5 →
      am_E Ln d 173 47 [vR 82, vI 1] [] s5 Q)) ∧
  (¬ (r2 = 40) →
    ∃ T : Option AV → AS → Prop, am_M Ln d 153 [vR 82, vI 1, vI (s1 82 35)] s1 T ∧ ∀ s6, T none s6 →
    ∃ T : Option AV → AS → Prop, am_M Ln d 154 [vR 82] s6 T ∧ ∀ (r8 : Int) s7, T (some (vI r8)) s7 →
    (r8 = 0 →
      Q none s7) ∧
    (¬ (r8 = 0) →
      ∃ T : Option AV → AS → Prop, am_M Ln d 158 [vR 82] s7 T ∧ ∀ s9, T none s9 →
      am_E Ln d 173 47 [vR 82, vI 1] [] s9 Q)))) : am_M Ln (d + 1) 173 [vR 82] σ Q :=
  am_vc_E (d := d) (m := 173) (cut := [(47, [true, true])]) 25 0 (am_entry 173 [vR 82]) [] σ h
set_option maxRecDepth 100000 in
theorem vl_X12_condition_47 {Ln : Int} {d : Nat} {Q : Option AV → AS → Prop} (σ : AS) (x1 : Int) (h :
  ∃ T : Option AV → AS → Prop, am_M Ln d 154 [vR 82] σ T ∧ ∀ (r2 : Int) s1, T (some (vI r2)) s1 →
  (r2 = 0 →
    Q none s1) ∧
  (¬ (r2 = 0) →
    (s1 82 42 = 0 →
      (x1 = 0 →
        ∃ T : Option AV → AS → Prop, am_M Ln d 154 [vR 82] s1 T ∧ ∀ (r4 : Int) s3, T (some (vI r4)) s3 →
        (r4 = 0 →
          am_E Ln d 173 47 [vR 82, vI x1] [] s3 Q) ∧
        (¬ (r4 = 0) →
          ∃ T : Option AV → AS → Prop, am_M Ln d 172 [vR 82] s3 T ∧ ∀ (r6 : Int) s5, T (some (vI r6)) s5 →
          am_E Ln d 173 47 [vR 82, vI r6] [] s5 Q)) ∧
      (¬ (x1 = 0) →
        ∃ T : Option AV → AS → Prop, am_M Ln d 171 [vR 82] s1 T ∧ ∀ s7, T none s7 →
        ∃ T : Option AV → AS → Prop, am_M Ln d 154 [vR 82] s7 T ∧ ∀ (r9 : Int) s8, T (some (vI r9)) s8 →
        (r9 = 0 →
          am_E Ln d 173 47 [vR 82, vI x1] [] s8 Q) ∧
        (¬ (r9 = 0) →
          ∃ T : Option AV → AS → Prop, am_M Ln d 172 [vR 82] s8 T ∧ ∀ (r11 : Int) s10, T (some (vI r11)) s10 →
          am_E Ln d 173 47 [vR 82, vI r11] [] s10 Q))) ∧
    (¬ (s1 82 42 = 0) →
      Q none s1))) : am_E Ln d 173 47 [vR 82, vI x1] [] σ Q :=
  am_vc_E (d := d) (m := 173) (cut := [(47, [true, true])]) 17 47 [vR 82, vI x1] [] σ h
set_option maxRecDepth 100000 in
theorem vm_X12_clause {Ln : Int} {d : Nat} {Q : Option AV → AS → Prop} (σ : AS) (h :
  ∃ T : Option AV → AS → Prop, am_M Ln d 152 [vR 82] σ T ∧ ∀ (r2 : Int) s1, T (some (vI r2)) s1 →
  (r2 = 119 →
    (s1 82 38 = 12 →
      ∃ T : Option AV → AS → Prop, am_M Ln d 153 [vR 82, vI 4, vI (s1 82 35)] s1 T ∧ ∀ s3, T none s3 →
      am_E Ln d 174 59 [vR 82, vI r2, vU] [] s3 Q) ∧
    (¬ (s1 82 38 = 12) →
      am_E Ln d 174 59 [vR 82, vI r2, vU] [] s1 Q)) ∧
  (¬ (r2 = 119) →
    (r2 = 114 →
      (s1 82 38 = 12 →
        ∃ T : Option AV → AS → Prop, am_M Ln d 153 [vR 82, vI 4, vI (s1 82 35)] s1 T ∧ ∀ s4, T none s4 →
        am_E Ln d 174 59 [vR 82, vI r2, vU] [] s4 Q) ∧
      (¬ (s1 82 38 = 12) →
        am_E Ln d 174 59 [vR 82, vI r2, vU] [] s1 Q)) ∧
    (¬ (r2 = 114) →
      (r2 = 103 →
        (s1 82 38 = 12 →
          ∃ T : Option AV → AS → Prop, am_M Ln d 153 [vR 82, vI 4, vI (s1 82 35)] s1 T ∧ ∀ s5, T none s5 →
          am_E Ln d 174 59 [vR 82, vI r2, vU] [] s5 Q) ∧
        (¬ (s1 82 38 = 12) →
          am_E Ln d 174 59 [vR 82, vI r2, vU] [] s1 Q)) ∧
      (¬ (r2 = 103) →
        (r2 = 120 →
          (s1 82 38 = 12 →
            ∃ T : Option AV → AS → Prop, am_M Ln d 153 [vR 82, vI 4, vI (s1 82 35)] s1 T ∧ ∀ s6, T none s6 →
            am_E Ln d 174 59 [vR 82, vI r2, vU] [] s6 Q) ∧
          (¬ (s1 82 38 = 12) →
            am_E Ln d 174 59 [vR 82, vI r2, vU] [] s1 Q)) ∧
        (¬ (r2 = 120) →
          ∃ T : Option AV → AS → Prop, am_M Ln d 153 [vR 82, vI 1, vI (s1 82 35)] s1 T ∧ ∀ s7, T none s7 →
          am_E Ln d 174 59 [vR 82, vI r2, vU] [] s7 Q))))) : am_M Ln (d + 1) 174 [vR 82] σ Q :=
  am_vc_E (d := d) (m := 174) (cut := [(59, [true, true, false]), (138, [true, true, true]), (169, [true, false, true])]) 24 0 (am_entry 174 [vR 82]) [] σ h
set_option maxRecDepth 100000 in
theorem vl_X12_clause_59 {Ln : Int} {d : Nat} {Q : Option AV → AS → Prop} (σ : AS) (x1 : Int) (h :
  ∃ T : Option AV → AS → Prop, am_M Ln d 154 [vR 82] σ T ∧ ∀ (r2 : Int) s1, T (some (vI r2)) s1 →
  (r2 = 0 →
    Q none s1) ∧
  (¬ (r2 = 0) →
    (0 ≤ w32 (w32 (12 * (s1 82 7)) + (s1 82 38)) ∧ w32 (w32 (12 * (s1 82 7)) + (s1 82 38)) < 240) ∧ ((0 ≤ w32 (w32 (12 * (s1 82 7)) + (s1 82 38)) ∧ w32 (w32 (12 * (s1 82 7)) + (s1 82 38)) < 240) ∧ ((0 ≤ w32 (w32 (12 * (s1 82 7)) + (s1 82 38)) ∧ w32 (w32 (12 * (s1 82 7)) + (s1 82 38)) < 240) ∧ ((0 ≤ w32 (w32 (12 * (s1 82 7)) + (s1 82 38)) ∧ w32 (w32 (12 * (s1 82 7)) + (s1 82 38)) < 240) ∧ ((x1 = 119 →
      ∃ T : Option AV → AS → Prop, am_M Ln d 160 [vR 82, vI 4] (am_up (am_up (am_up (am_up (am_up s1 101 (w32 (w32 (12 * (s1 82 7)) + (s1 82 38))) x1) 102 (w32 (w32 (12 * (s1 82 7)) + (s1 82 38))) 0) 103 (w32 (w32 (12 * (s1 82 7)) + (s1 82 38))) 0) 104 (w32 (w32 (12 * (s1 82 7)) + (s1 82 38))) (s1 82 39)) 82 35 (w32 (s1 82 35 + 1))) T ∧ ∀ (r4 : Int) s3, T (some (vI r4)) s3 →
      (0 ≤ w32 (w32 (12 * (s1 82 7)) + (s1 82 38)) ∧ w32 (w32 (12 * (s1 82 7)) + (s1 82 38)) < 240) ∧ (am_E Ln d 174 138 [vR 82, vI x1, vI (w32 (w32 (12 * (s1 82 7)) + (s1 82 38)))] [] (am_up s3 102 (w32 (w32 (12 * (s1 82 7)) + (s1 82 38))) r4) Q)) ∧
    (¬ (x1 = 119) →
      am_E Ln d 174 138 [vR 82, vI x1, vI (w32 (w32 (12 * (s1 82 7)) + (s1 82 38)))] [] (am_up (am_up (am_up (am_up (am_up s1 101 (w32 (w32 (12 * (s1 82 7)) + (s1 82 38))) x1) 102 (w32 (w32 (12 * (s1 82 7)) + (s1 82 38))) 0) 103 (w32 (w32 (12 * (s1 82 7)) + (s1 82 38))) 0) 104 (w32 (w32 (12 * (s1 82 7)) + (s1 82 38))) (s1 82 39)) 82 35 (w32 (s1 82 35 + 1))) Q))))))) : am_E Ln d 174 59 [vR 82, vI x1, vU] [] σ Q :=
  am_vc_E (d := d) (m := 174) (cut := [(59, [true, true, false]), (138, [true, true, true]), (169, [true, false, true])]) 48 59 [vR 82, vI x1, vU] [] σ h
set_option maxRecDepth 100000 in
theorem vl_X12_clause_138 {Ln : Int} {d : Nat} {Q : Option AV → AS → Prop} (σ : AS) (x1 x2 : Int) (h :
  (x1 = 120 →
    ∃ T : Option AV → AS → Prop, am_M Ln d 160 [vR 82, vI 19] σ T ∧ ∀ (r2 : Int) s1, T (some (vI r2)) s1 →
    (0 ≤ x2 ∧ x2 < 240) ∧ (∃ T : Option AV → AS → Prop, am_M Ln d 154 [vR 82] (am_up s1 102 x2 r2) T ∧ ∀ (r4 : Int) s3, T (some (vI r4)) s3 →
    (r4 = 0 →
      am_E Ln d 174 169 [vR 82, vU, vI x2] [] s3 Q) ∧
    (¬ (r4 = 0) →
      ∃ T : Option AV → AS → Prop, am_M Ln d 161 [vR 82, vI 46] s3 T ∧ ∀ s5, T none s5 →
      am_E Ln d 174 169 [vR 82, vU, vI x2] [] s5 Q))) ∧
  (¬ (x1 = 120) →
    ∃ T : Option AV → AS → Prop, am_M Ln d 154 [vR 82] σ T ∧ ∀ (r7 : Int) s6, T (some (vI r7)) s6 →
    (r7 = 0 →
      (0 ≤ x2 ∧ x2 < 240) ∧ (Q none (am_up (am_up s6 105 x2 (s6 82 39)) 82 38 (w32 (s6 82 38 + 1))))) ∧
    (¬ (r7 = 0) →
      ∃ T : Option AV → AS → Prop, am_M Ln d 173 [vR 82] s6 T ∧ ∀ s8, T none s8 →
      (0 ≤ x2 ∧ x2 < 240) ∧ (Q none (am_up (am_up s8 105 x2 (s8 82 39)) 82 38 (w32 (s8 82 38 + 1))))))) : am_E Ln d 174 138 [vR 82, vI x1, vI x2] [] σ Q :=
  am_vc_E (d := d) (m := 174) (cut := [(59, [true, true, false]), (138, [true, true, true]), (169, [true, false, true])]) 21 138 [vR 82, vI x1, vI x2] [] σ h
set_option maxRecDepth 100000 in
theorem vl_X12_clause_169 {Ln : Int} {d : Nat} {Q : Option AV → AS → Prop} (σ : AS) (x2 : Int) (h :
  ∃ T : Option AV → AS → Prop, am_M Ln d 154 [vR 82] σ T ∧ ∀ (r2 : Int) s1, T (some (vI r2)) s1 →
  (r2 = 0 →
    (0 ≤ x2 ∧ x2 < 240) ∧ (Q none (am_up (am_up s1 105 x2 (s1 82 39)) 82 38 (w32 (s1 82 38 + 1))))) ∧
  (¬ (r2 = 0) →
    ∃ T : Option AV → AS → Prop, am_M Ln d 160 [vR 82, vI 11] s1 T ∧ ∀ (r4 : Int) s3, T (some (vI r4)) s3 →
    (0 ≤ x2 ∧ x2 < 240) ∧ ((0 ≤ x2 ∧ x2 < 240) ∧ (Q none (am_up (am_up (am_up s3 103 x2 r4) 105 x2 (s3 82 39)) 82 38 (w32 (s3 82 38 + 1))))))) : am_E Ln d 174 169 [vR 82, vU, vI x2] [] σ Q :=
  am_vc_E (d := d) (m := 174) (cut := [(59, [true, true, false]), (138, [true, true, true]), (169, [true, false, true])]) 24 169 [vR 82, vU, vI x2] [] σ h
set_option maxRecDepth 100000 in
theorem vm_X12_rules {Ln : Int} {d : Nat} {Q : Option AV → AS → Prop} (σ : AS) (a1 a2 a3 a4 : Int) (h :
  (σ 82 7 = 20 →
    Q (some (vI (-1))) σ) ∧
  (¬ (σ 82 7 = 20) →
    ∃ T : Option AV → AS → Prop, am_M Ln d 134 [vL a1, vL 0, vL 3] σ T ∧ ∀ (r2 : Int) s1, T (some (vI r2)) s1 →
    (r2 = 0 →
      Q (some (vI (-1))) s1) ∧
    (¬ (r2 = 0) →
      ∃ T : Option AV → AS → Prop, am_M Ln d 139 [vI a2] s1 T ∧ ∀ (r4 : Int) s3, T (some (vI r4)) s3 →
      (r4 = 0 →
        Q (some (vI (-1))) s3) ∧
      (¬ (r4 = 0) →
        ∃ T : Option AV → AS → Prop, am_M Ln d 139 [vI a3] s3 T ∧ ∀ (r6 : Int) s5, T (some (vI r6)) s5 →
        (r6 = 0 →
          Q (some (vI (-1))) s5) ∧
        (¬ (r6 = 0) →
          (a3 < a2 →
            Q (some (vI (-1))) s5) ∧
          (¬ (a3 < a2) →
            ∃ T : Option AV → AS → Prop, am_M Ln d 134 [vL a4, vL 1, vL 160] s5 T ∧ ∀ (r8 : Int) s7, T (some (vI r8)) s7 →
            (r8 = 0 →
              Q (some (vI (-1))) s7) ∧
            (¬ (r8 = 0) →
              (a4 ≤ s7 82 1 →
                am_E Ln d 175 98 [vR 82, vI a1, vI a2, vI a3, vU, vI 1] [] (am_up (am_up (am_up (am_up (am_up (am_up s7 82 1 0) 82 35 0) 82 36 a4) 82 37 0) 82 38 0) 82 39 0) Q) ∧
              (¬ (a4 ≤ s7 82 1) →
                Q (some (vI (-1))) s7)))))))) : am_M Ln (d + 1) 175 [vR 82, vI a1, vI a2, vI a3, vI a4] σ Q :=
  am_vc_E (d := d) (m := 175) (cut := [(98, [true, true, true, true, false, true])]) 49 0 (am_entry 175 [vR 82, vI a1, vI a2, vI a3, vI a4]) [] σ h
set_option maxRecDepth 100000 in
theorem vl_X12_rules_98 {Ln : Int} {d : Nat} {Q : Option AV → AS → Prop} (σ : AS) (x1 x2 x3 x5 : Int) (h :
  (x5 = 0 →
    (0 ≤ σ 82 37 →
      (0 ≤ σ 82 7 ∧ σ 82 7 < 20) ∧ ((0 ≤ σ 82 7 ∧ σ 82 7 < 20) ∧ ((0 ≤ σ 82 7 ∧ σ 82 7 < 20) ∧ ((0 ≤ σ 82 7 ∧ σ 82 7 < 20) ∧ ((0 ≤ σ 82 7 ∧ σ 82 7 < 20) ∧ (Q (some (vI (w32 (w32 (σ 82 7 + 1) - 1)))) (am_up (am_up (am_up (am_up (am_up (am_up σ 96 (σ 82 7) x1) 97 (σ 82 7) x2) 98 (σ 82 7) x3) 99 (σ 82 7) (σ 82 2)) 100 (σ 82 7) (σ 82 38)) 82 7 (w32 (σ 82 7 + 1))))))))) ∧
    (¬ (0 ≤ σ 82 37) →
      Q (some (vI (σ 82 37))) σ)) ∧
  (¬ (x5 = 0) →
    ∃ T : Option AV → AS → Prop, am_M Ln d 154 [vR 82] σ T ∧ ∀ (r2 : Int) s1, T (some (vI r2)) s1 →
    (r2 = 0 →
      (0 ≤ s1 82 37 →
        (0 ≤ s1 82 7 ∧ s1 82 7 < 20) ∧ ((0 ≤ s1 82 7 ∧ s1 82 7 < 20) ∧ ((0 ≤ s1 82 7 ∧ s1 82 7 < 20) ∧ ((0 ≤ s1 82 7 ∧ s1 82 7 < 20) ∧ ((0 ≤ s1 82 7 ∧ s1 82 7 < 20) ∧ (Q (some (vI (w32 (w32 (s1 82 7 + 1) - 1)))) (am_up (am_up (am_up (am_up (am_up (am_up s1 96 (s1 82 7) x1) 97 (s1 82 7) x2) 98 (s1 82 7) x3) 99 (s1 82 7) (s1 82 2)) 100 (s1 82 7) (s1 82 38)) 82 7 (w32 (s1 82 7 + 1))))))))) ∧
      (¬ (0 ≤ s1 82 37) →
        Q (some (vI (s1 82 37))) s1)) ∧
    (¬ (r2 = 0) →
      ∃ T : Option AV → AS → Prop, am_M Ln d 174 [vR 82] s1 T ∧ ∀ s3, T none s3 →
      ∃ T : Option AV → AS → Prop, am_M Ln d 154 [vR 82] s3 T ∧ ∀ (r5 : Int) s4, T (some (vI r5)) s4 →
      (r5 = 0 →
        ((0 : Int) = 0 →
          am_E Ln d 175 98 [vR 82, vI x1, vI x2, vI x3, vU, vI 0] [] s4 Q) ∧
        (¬ ((0 : Int) = 0) →
          ∃ T : Option AV → AS → Prop, am_M Ln d 161 [vR 82, vI 59] s4 T ∧ ∀ s6, T none s6 →
          am_E Ln d 175 98 [vR 82, vI x1, vI x2, vI x3, vU, vI 0] [] s6 Q)) ∧
      (¬ (r5 = 0) →
        (s4 82 36 ≤ s4 82 35 →
          ((0 : Int) = 0 →
            am_E Ln d 175 98 [vR 82, vI x1, vI x2, vI x3, vU, vI 0] [] s4 Q) ∧
          (¬ ((0 : Int) = 0) →
            ∃ T : Option AV → AS → Prop, am_M Ln d 161 [vR 82, vI 59] s4 T ∧ ∀ s7, T none s7 →
            am_E Ln d 175 98 [vR 82, vI x1, vI x2, vI x3, vU, vI 0] [] s7 Q)) ∧
        (¬ (s4 82 36 ≤ s4 82 35) →
          ((1 : Int) = 0 →
            am_E Ln d 175 98 [vR 82, vI x1, vI x2, vI x3, vU, vI 1] [] s4 Q) ∧
          (¬ ((1 : Int) = 0) →
            ∃ T : Option AV → AS → Prop, am_M Ln d 161 [vR 82, vI 59] s4 T ∧ ∀ s8, T none s8 →
            am_E Ln d 175 98 [vR 82, vI x1, vI x2, vI x3, vU, vI 1] [] s8 Q)))))) : am_E Ln d 175 98 [vR 82, vI x1, vI x2, vI x3, vU, vI x5] [] σ Q :=
  am_vc_E (d := d) (m := 175) (cut := [(98, [true, true, true, true, false, true])]) 51 98 [vR 82, vI x1, vI x2, vI x3, vU, vI x5] [] σ h
set_option maxRecDepth 100000 in
theorem vm_X12_knows {Ln : Int} {d : Nat} {Q : Option AV → AS → Prop} (σ : AS) (a1 a2 a3 : Int) (h :
  (σ 82 8 = 100 →
    am_b 0 ∧ Q (some (vI 0)) σ) ∧
  (¬ (σ 82 8 = 100) →
    ∃ T : Option AV → AS → Prop, am_M Ln d 136 [vR 82, vI a1] σ T ∧ ∀ (r2 : Int) s1, T (some (vI r2)) s1 →
    (r2 = 0 →
      am_b 0 ∧ Q (some (vI 0)) s1) ∧
    (¬ (r2 = 0) →
      ∃ T : Option AV → AS → Prop, am_M Ln d 136 [vR 82, vI a2] s1 T ∧ ∀ (r4 : Int) s3, T (some (vI r4)) s3 →
      (r4 = 0 →
        am_b 0 ∧ Q (some (vI 0)) s3) ∧
      (¬ (r4 = 0) →
        (a1 = a2 →
          am_b 0 ∧ Q (some (vI 0)) s3) ∧
        (¬ (a1 = a2) →
          ∃ T : Option AV → AS → Prop, am_M Ln d 139 [vI a3] s3 T ∧ ∀ (r6 : Int) s5, T (some (vI r6)) s5 →
          (r6 = 0 →
            am_b 0 ∧ Q (some (vI 0)) s5) ∧
          (¬ (r6 = 0) →
            (0 ≤ s5 82 8 ∧ s5 82 8 < 100) ∧ ((0 ≤ s5 82 8 ∧ s5 82 8 < 100) ∧ ((0 ≤ s5 82 8 ∧ s5 82 8 < 100) ∧ ((0 ≤ s5 82 8 ∧ s5 82 8 < 100) ∧ (am_b 1 ∧ Q (some (vI 1)) (am_up (am_up (am_up (am_up (am_up s5 109 (s5 82 8) a1) 110 (s5 82 8) a2) 111 (s5 82 8) a3) 112 (s5 82 8) (s5 82 2)) 82 8 (w32 (s5 82 8 + 1))))))))))))) : am_M Ln (d + 1) 176 [vR 82, vI a1, vI a2, vI a3] σ Q :=
  am_vc_E (d := d) (m := 176) (cut := []) 51 0 (am_entry 176 [vR 82, vI a1, vI a2, vI a3]) [] σ h
set_option maxRecDepth 100000 in
theorem vm_X12_knew {Ln : Int} {d : Nat} {Q : Option AV → AS → Prop} (σ : AS) (a1 a2 a3 a4 : Int) (h :
  am_E Ln d 177 3 [vR 82, vI a1, vI a2, vI a3, vI a4, vI 0] [] σ Q) : am_M Ln (d + 1) 177 [vR 82, vI a1, vI a2, vI a3, vI a4] σ Q :=
  am_vc_E (d := d) (m := 177) (cut := [(3, [true, true, true, true, true, true])]) 2 0 (am_entry 177 [vR 82, vI a1, vI a2, vI a3, vI a4]) [] σ h
set_option maxRecDepth 100000 in
theorem vl_X12_knew_3 {Ln : Int} {d : Nat} {Q : Option AV → AS → Prop} (σ : AS) (x1 x2 x3 x4 x5 : Int) (h :
  (σ 82 8 ≤ x5 →
    am_b 0 ∧ Q (some (vI 0)) σ) ∧
  (¬ (σ 82 8 ≤ x5) →
    (0 ≤ x5 ∧ x5 < 100) ∧ ((σ 109 x5 = x1 →
      (0 ≤ x5 ∧ x5 < 100) ∧ ((σ 110 x5 = x2 →
        (0 ≤ x5 ∧ x5 < 100) ∧ ((x3 < σ 111 x5 →
          am_E Ln d 177 3 [vR 82, vI x1, vI x2, vI x3, vI x4, vI (w32 (x5 + 1))] [] σ Q) ∧
        (¬ (x3 < σ 111 x5) →
          (0 ≤ x5 ∧ x5 < 100) ∧ ((x4 < σ 112 x5 →
            am_E Ln d 177 3 [vR 82, vI x1, vI x2, vI x3, vI x4, vI (w32 (x5 + 1))] [] σ Q) ∧
          (¬ (x4 < σ 112 x5) →
            am_b 1 ∧ Q (some (vI 1)) σ))))) ∧
      (¬ (σ 110 x5 = x2) →
        am_E Ln d 177 3 [vR 82, vI x1, vI x2, vI x3, vI x4, vI (w32 (x5 + 1))] [] σ Q))) ∧
    (¬ (σ 109 x5 = x1) →
      am_E Ln d 177 3 [vR 82, vI x1, vI x2, vI x3, vI x4, vI (w32 (x5 + 1))] [] σ Q)))) : am_E Ln d 177 3 [vR 82, vI x1, vI x2, vI x3, vI x4, vI x5] [] σ Q :=
  am_vc_E (d := d) (m := 177) (cut := [(3, [true, true, true, true, true, true])]) 30 3 [vR 82, vI x1, vI x2, vI x3, vI x4, vI x5] [] σ h
set_option maxRecDepth 100000 in
theorem vm_X12_empties {Ln : Int} {d : Nat} {Q : Option AV → AS → Prop} (σ : AS) (h :
  am_E Ln d 178 2 [vR 82, vI 0] [] σ Q) : am_M Ln (d + 1) 178 [vR 82] σ Q :=
  am_vc_E (d := d) (m := 178) (cut := [(2, [true, true]), (23, [true, true])]) 2 0 (am_entry 178 [vR 82]) [] σ h
set_option maxRecDepth 100000 in
theorem vl_X12_empties_2 {Ln : Int} {d : Nat} {Q : Option AV → AS → Prop} (σ : AS) (x1 : Int) (h :
  (10 ≤ x1 →
    am_E Ln d 178 23 [vR 82, vI 0] [] σ Q) ∧
  (¬ (10 ≤ x1) →
    (0 ≤ x1 ∧ x1 < 10) ∧ (am_E Ln d 178 2 [vR 82, vI (w32 (x1 + 1))] [] (am_up σ 113 x1 0) Q))) : am_E Ln d 178 2 [vR 82, vI x1] [] σ Q :=
  am_vc_E (d := d) (m := 178) (cut := [(2, [true, true]), (23, [true, true])]) 10 2 [vR 82, vI x1] [] σ h
set_option maxRecDepth 100000 in
theorem vl_X12_empties_23 {Ln : Int} {d : Nat} {Q : Option AV → AS → Prop} (σ : AS) (x1 : Int) (h :
  (100 ≤ x1 →
    Q none σ) ∧
  (¬ (100 ≤ x1) →
    (0 ≤ x1 ∧ x1 < 100) ∧ ((0 ≤ x1 ∧ x1 < 100) ∧ (am_E Ln d 178 23 [vR 82, vI (w32 (x1 + 1))] [] (am_up (am_up σ 116 x1 0) 117 x1 0) Q)))) : am_E Ln d 178 23 [vR 82, vI x1] [] σ Q :=
  am_vc_E (d := d) (m := 178) (cut := [(2, [true, true]), (23, [true, true])]) 15 23 [vR 82, vI x1] [] σ h
set_option maxRecDepth 100000 in
theorem vm_X12_lays {Ln : Int} {d : Nat} {Q : Option AV → AS → Prop} (σ : AS) (a1 a2 a3 : Int) (h :
  (a3 = 0 →
    Q none σ) ∧
  (¬ (a3 = 0) →
    (0 ≤ a1 ∧ a1 < 10) ∧ ((0 ≤ a1 ∧ a1 < 10) ∧ ((σ 113 a1 ≤ 0 →
      (0 ≤ w32 (w32 (w32 (w32 (1400 * a1) + (σ 113 a1)) - 1) + 1) ∧ w32 (w32 (w32 (w32 (1400 * a1) + (σ 113 a1)) - 1) + 1) < 14000) ∧ ((0 ≤ w32 (w32 (w32 (w32 (1400 * a1) + (σ 113 a1)) - 1) + 1) ∧ w32 (w32 (w32 (w32 (1400 * a1) + (σ 113 a1)) - 1) + 1) < 14000) ∧ ((0 ≤ a1 ∧ a1 < 10) ∧ ((0 ≤ a1 ∧ a1 < 10) ∧ (Q none (am_up (am_up (am_up σ 114 (w32 (w32 (w32 (w32 (1400 * a1) + (σ 113 a1)) - 1) + 1)) a2) 115 (w32 (w32 (w32 (w32 (1400 * a1) + (σ 113 a1)) - 1) + 1)) a3) 113 a1 (w32 (σ 113 a1 + 1)))))))) ∧
    (¬ (σ 113 a1 ≤ 0) →
      (0 ≤ w32 (w32 (w32 (1400 * a1) + (σ 113 a1)) - 1) ∧ w32 (w32 (w32 (1400 * a1) + (σ 113 a1)) - 1) < 14000) ∧ ((σ 114 (w32 (w32 (w32 (1400 * a1) + (σ 113 a1)) - 1)) = a2 →
        (0 ≤ w32 (w32 (w32 (1400 * a1) + (σ 113 a1)) - 1) ∧ w32 (w32 (w32 (1400 * a1) + (σ 113 a1)) - 1) < 14000) ∧ ((0 ≤ w32 (w32 (w32 (1400 * a1) + (σ 113 a1)) - 1) ∧ w32 (w32 (w32 (1400 * a1) + (σ 113 a1)) - 1) < 14000) ∧ (Q none (am_up σ 115 (w32 (w32 (w32 (1400 * a1) + (σ 113 a1)) - 1)) (w32 (σ 115 (w32 (w32 (w32 (1400 * a1) + (σ 113 a1)) - 1)) + a3)))))) ∧
      (¬ (σ 114 (w32 (w32 (w32 (1400 * a1) + (σ 113 a1)) - 1)) = a2) →
        (0 ≤ w32 (w32 (w32 (w32 (1400 * a1) + (σ 113 a1)) - 1) + 1) ∧ w32 (w32 (w32 (w32 (1400 * a1) + (σ 113 a1)) - 1) + 1) < 14000) ∧ ((0 ≤ w32 (w32 (w32 (w32 (1400 * a1) + (σ 113 a1)) - 1) + 1) ∧ w32 (w32 (w32 (w32 (1400 * a1) + (σ 113 a1)) - 1) + 1) < 14000) ∧ ((0 ≤ a1 ∧ a1 < 10) ∧ ((0 ≤ a1 ∧ a1 < 10) ∧ (Q none (am_up (am_up (am_up σ 114 (w32 (w32 (w32 (w32 (1400 * a1) + (σ 113 a1)) - 1) + 1)) a2) 115 (w32 (w32 (w32 (w32 (1400 * a1) + (σ 113 a1)) - 1) + 1)) a3) 113 a1 (w32 (σ 113 a1 + 1)))))))))))))) : am_M Ln (d + 1) 179 [vR 82, vI a1, vI a2, vI a3] σ Q :=
  am_vc_E (d := d) (m := 179) (cut := []) 47 0 (am_entry 179 [vR 82, vI a1, vI a2, vI a3]) [] σ h
set_option maxRecDepth 100000 in
theorem vm_X12_allOf {Ln : Int} {d : Nat} {Q : Option AV → AS → Prop} (σ : AS) (a1 : Int) (h :
  am_E Ln d 180 8 [vR 82, vI a1, vI 0, vI (w32 (1400 * a1))] [] σ Q) : am_M Ln (d + 1) 180 [vR 82, vI a1] σ Q :=
  am_vc_E (d := d) (m := 180) (cut := [(8, [true, true, true, true])]) 6 0 (am_entry 180 [vR 82, vI a1]) [] σ h
set_option maxRecDepth 100000 in
theorem vl_X12_allOf_8 {Ln : Int} {d : Nat} {Q : Option AV → AS → Prop} (σ : AS) (x1 x2 x3 : Int) (h :
  (0 ≤ x1 ∧ x1 < 10) ∧ ((w32 (w32 (1400 * x1) + (σ 113 x1)) ≤ x3 →
    Q (some (vI x2)) σ) ∧
  (¬ (w32 (w32 (1400 * x1) + (σ 113 x1)) ≤ x3) →
    (0 ≤ x3 ∧ x3 < 14000) ∧ (am_E Ln d 180 8 [vR 82, vI x1, vI (w32 (x2 + (σ 115 x3))), vI (w32 (x3 + 1))] [] σ Q)))) : am_E Ln d 180 8 [vR 82, vI x1, vI x2, vI x3] [] σ Q :=
  am_vc_E (d := d) (m := 180) (cut := [(8, [true, true, true, true])]) 19 8 [vR 82, vI x1, vI x2, vI x3] [] σ h
set_option maxRecDepth 100000 in
theorem vm_X12_of {Ln : Int} {d : Nat} {Q : Option AV → AS → Prop} (σ : AS) (a1 a2 : Int) (h :
  am_E Ln d 181 9 [vR 82, vI a1, vI a2, vI 0, vI (w32 (1400 * a1))] [] σ Q) : am_M Ln (d + 1) 181 [vR 82, vI a1, vI a2] σ Q :=
  am_vc_E (d := d) (m := 181) (cut := [(9, [true, true, true, true, true])]) 6 0 (am_entry 181 [vR 82, vI a1, vI a2]) [] σ h
set_option maxRecDepth 100000 in
theorem vl_X12_of_9 {Ln : Int} {d : Nat} {Q : Option AV → AS → Prop} (σ : AS) (x1 x2 x3 x4 : Int) (h :
  (0 ≤ x1 ∧ x1 < 10) ∧ ((w32 (w32 (1400 * x1) + (σ 113 x1)) ≤ x4 →
    Q (some (vI x3)) σ) ∧
  (¬ (w32 (w32 (1400 * x1) + (σ 113 x1)) ≤ x4) →
    (0 ≤ x4 ∧ x4 < 14000) ∧ ((σ 114 x4 = x2 →
      (0 ≤ x4 ∧ x4 < 14000) ∧ (am_E Ln d 181 9 [vR 82, vI x1, vI x2, vI (w32 (x3 + (σ 115 x4))), vI (w32 (x4 + 1))] [] σ Q)) ∧
    (¬ (σ 114 x4 = x2) →
      am_E Ln d 181 9 [vR 82, vI x1, vI x2, vI (w32 (x3 + 0)), vI (w32 (x4 + 1))] [] σ Q))))) : am_E Ln d 181 9 [vR 82, vI x1, vI x2, vI x3, vI x4] [] σ Q :=
  am_vc_E (d := d) (m := 181) (cut := [(9, [true, true, true, true, true])]) 26 9 [vR 82, vI x1, vI x2, vI x3, vI x4] [] σ h
set_option maxRecDepth 100000 in
theorem vm_X12_some {Ln : Int} {d : Nat} {Q : Option AV → AS → Prop} (σ : AS) (a1 : Int) (h :
  am_E Ln d 182 4 [vR 82, vI a1, vI 0, vI 0] [] σ Q) : am_M Ln (d + 1) 182 [vR 82, vI a1] σ Q :=
  am_vc_E (d := d) (m := 182) (cut := [(4, [true, true, true, true])]) 4 0 (am_entry 182 [vR 82, vI a1]) [] σ h
set_option maxRecDepth 100000 in
theorem vl_X12_some_4 {Ln : Int} {d : Nat} {Q : Option AV → AS → Prop} (σ : AS) (x1 x2 x3 : Int) (h :
  (σ 82 3 ≤ x3 →
    Q (some (vI x2)) σ) ∧
  (¬ (σ 82 3 ≤ x3) →
    ∃ T : Option AV → AS → Prop, am_M Ln d 181 [vR 82, vI x1, vI x3] σ T ∧ ∀ (r2 : Int) s1, T (some (vI r2)) s1 →
    (r2 ≤ 0 →
      am_E Ln d 182 4 [vR 82, vI x1, vI (w32 (x2 + 0)), vI (w32 (x3 + 1))] [] s1 Q) ∧
    (¬ (r2 ≤ 0) →
      am_E Ln d 182 4 [vR 82, vI x1, vI (w32 (x2 + 1)), vI (w32 (x3 + 1))] [] s1 Q))) : am_E Ln d 182 4 [vR 82, vI x1, vI x2, vI x3] [] σ Q :=
  am_vc_E (d := d) (m := 182) (cut := [(4, [true, true, true, true])]) 16 4 [vR 82, vI x1, vI x2, vI x3] [] σ h
set_option maxRecDepth 100000 in
theorem vm_X12_takes {Ln : Int} {d : Nat} {Q : Option AV → AS → Prop} (σ : AS) (a1 a2 : Int) (h :
  (a2 = 0 →
    Q none σ) ∧
  (¬ (a2 = 0) →
    (σ 82 54 ≤ 0 →
      (0 ≤ σ 82 54 ∧ σ 82 54 < 1500) ∧ ((0 ≤ σ 82 54 ∧ σ 82 54 < 1500) ∧ (Q none (am_up (am_up (am_up σ 118 (σ 82 54) a1) 119 (σ 82 54) a2) 82 54 (w32 (σ 82 54 + 1)))))) ∧
    (¬ (σ 82 54 ≤ 0) →
      (0 ≤ w32 (σ 82 54 - 1) ∧ w32 (σ 82 54 - 1) < 1500) ∧ ((σ 118 (w32 (σ 82 54 - 1)) = a1 →
        (0 ≤ w32 (σ 82 54 - 1) ∧ w32 (σ 82 54 - 1) < 1500) ∧ ((0 ≤ w32 (σ 82 54 - 1) ∧ w32 (σ 82 54 - 1) < 1500) ∧ (Q none (am_up σ 119 (w32 (σ 82 54 - 1)) (w32 (σ 119 (w32 (σ 82 54 - 1)) + a2)))))) ∧
      (¬ (σ 118 (w32 (σ 82 54 - 1)) = a1) →
        (0 ≤ σ 82 54 ∧ σ 82 54 < 1500) ∧ ((0 ≤ σ 82 54 ∧ σ 82 54 < 1500) ∧ (Q none (am_up (am_up (am_up σ 118 (σ 82 54) a1) 119 (σ 82 54) a2) 82 54 (w32 (σ 82 54 + 1)))))))))) : am_M Ln (d + 1) 183 [vR 82, vI a1, vI a2] σ Q :=
  am_vc_E (d := d) (m := 183) (cut := []) 33 0 (am_entry 183 [vR 82, vI a1, vI a2]) [] σ h
set_option maxRecDepth 100000 in
theorem vm_X12_takesPart {Ln : Int} {d : Nat} {Q : Option AV → AS → Prop} (σ : AS) (a1 a2 : Int) (h :
  (0 ≤ a1 ∧ a1 < 14000) ∧ ((a2 ≤ σ 115 a1 →
    (0 ≤ a1 ∧ a1 < 14000) ∧ (∃ T : Option AV → AS → Prop, am_M Ln d 183 [vR 82, vI (σ 114 a1), vI a2] σ T ∧ ∀ s1, T none s1 →
    (0 ≤ a1 ∧ a1 < 14000) ∧ ((0 ≤ a1 ∧ a1 < 14000) ∧ (Q (some (vI (w32 (a2 - a2)))) (am_up s1 115 a1 (w32 (s1 115 a1 - a2))))))) ∧
  (¬ (a2 ≤ σ 115 a1) →
    (0 ≤ a1 ∧ a1 < 14000) ∧ ((0 ≤ a1 ∧ a1 < 14000) ∧ (∃ T : Option AV → AS → Prop, am_M Ln d 183 [vR 82, vI (σ 114 a1), vI (σ 115 a1)] σ T ∧ ∀ s2, T none s2 →
    (0 ≤ a1 ∧ a1 < 14000) ∧ ((0 ≤ a1 ∧ a1 < 14000) ∧ (Q (some (vI (w32 (a2 - (σ 115 a1))))) (am_up s2 115 a1 (w32 (s2 115 a1 - (σ 115 a1))))))))))) : am_M Ln (d + 1) 184 [vR 82, vI a1, vI a2] σ Q :=
  am_vc_E (d := d) (m := 184) (cut := []) 31 0 (am_entry 184 [vR 82, vI a1, vI a2]) [] σ h
set_option maxRecDepth 100000 in
theorem vm_X12_takesOf {Ln : Int} {d : Nat} {Q : Option AV → AS → Prop} (σ : AS) (a1 a2 a3 a4 : Int) (h :
  am_E Ln d 185 11 [vR 82, vI a1, vI a2, vI a3, vU, vI a4, vI (w32 (1400 * a1))] [] σ Q) : am_M Ln (d + 1) 185 [vR 82, vI a1, vI a2, vI a3, vI a4] σ Q :=
  am_vc_E (d := d) (m := 185) (cut := [(11, [true, true, true, true, false, true, true])]) 6 0 (am_entry 185 [vR 82, vI a1, vI a2, vI a3, vI a4]) [] σ h
set_option maxRecDepth 100000 in
theorem vl_X12_takesOf_11 {Ln : Int} {d : Nat} {Q : Option AV → AS → Prop} (σ : AS) (x1 x2 x3 x5 x6 : Int) (h :
  (0 ≤ x1 ∧ x1 < 10) ∧ ((w32 (w32 (1400 * x1) + (σ 113 x1)) ≤ x6 →
    Q (some (vI x5)) σ) ∧
  (¬ (w32 (w32 (1400 * x1) + (σ 113 x1)) ≤ x6) →
    (0 ≤ x6 ∧ x6 < 14000) ∧ ((σ 114 x6 = x2 →
      ((1 : Int) = x3 →
        ∃ T : Option AV → AS → Prop, am_M Ln d 184 [vR 82, vI x6, vI x5] σ T ∧ ∀ (r2 : Int) s1, T (some (vI r2)) s1 →
        am_E Ln d 185 11 [vR 82, vI x1, vI x2, vI x3, vU, vI r2, vI (w32 (x6 + 1))] [] s1 Q) ∧
      (¬ ((1 : Int) = x3) →
        am_E Ln d 185 11 [vR 82, vI x1, vI x2, vI x3, vU, vI x5, vI (w32 (x6 + 1))] [] σ Q)) ∧
    (¬ (σ 114 x6 = x2) →
      ((0 : Int) = x3 →
        ∃ T : Option AV → AS → Prop, am_M Ln d 184 [vR 82, vI x6, vI x5] σ T ∧ ∀ (r4 : Int) s3, T (some (vI r4)) s3 →
        am_E Ln d 185 11 [vR 82, vI x1, vI x2, vI x3, vU, vI r4, vI (w32 (x6 + 1))] [] s3 Q) ∧
      (¬ ((0 : Int) = x3) →
        am_E Ln d 185 11 [vR 82, vI x1, vI x2, vI x3, vU, vI x5, vI (w32 (x6 + 1))] [] σ Q)))))) : am_E Ln d 185 11 [vR 82, vI x1, vI x2, vI x3, vU, vI x5, vI x6] [] σ Q :=
  am_vc_E (d := d) (m := 185) (cut := [(11, [true, true, true, true, false, true, true])]) 27 11 [vR 82, vI x1, vI x2, vI x3, vU, vI x5, vI x6] [] σ h
set_option maxRecDepth 100000 in
theorem vm_X12_takesByParts {Ln : Int} {d : Nat} {Q : Option AV → AS → Prop} (σ : AS) (a1 a2 : Int) (h :
  ∃ T : Option AV → AS → Prop, am_M Ln d 180 [vR 82, vI a1] σ T ∧ ∀ (r2 : Int) s1, T (some (vI r2)) s1 →
  am_E Ln d 186 12 [vR 82, vI a1, vI a2, vI r2, vI a2, vI 0, vU] [] s1 Q) : am_M Ln (d + 1) 186 [vR 82, vI a1, vI a2] σ Q :=
  am_vc_E (d := d) (m := 186) (cut := [(12, [true, true, true, true, true, true, false]), (64, [true, true, false, false, true, true, false]), (121, [true, true, false, false, false, true, false])]) 8 0 (am_entry 186 [vR 82, vI a1, vI a2]) [] σ h
set_option maxRecDepth 100000 in
theorem vl_X12_takesByParts_12 {Ln : Int} {d : Nat} {Q : Option AV → AS → Prop} (σ : AS) (x1 x2 x3 x4 x5 : Int) (h :
  (σ 82 3 ≤ x5 →
    am_E Ln d 186 64 [vR 82, vI x1, vU, vU, vI x4, vI 0, vU] [] σ Q) ∧
  (¬ (σ 82 3 ≤ x5) →
    ∃ T : Option AV → AS → Prop, am_M Ln d 181 [vR 82, vI x1, vI x5] σ T ∧ ∀ (r2 : Int) s1, T (some (vI r2)) s1 →
    ¬ x3 = 0 ∧ ((0 ≤ x5 ∧ x5 < 10) ∧ ((0 ≤ x5 ∧ x5 < 10) ∧ (am_E Ln d 186 12 [vR 82, vI x1, vI x2, vI x3, vI (w32 (x4 - ((am_up s1 120 x5 (w32 (w64 (Int.tdiv (w64 (x2 * r2)) x3)))) 120 x5))), vI (w32 (x5 + 1)), vU] [] (am_up s1 120 x5 (w32 (w64 (Int.tdiv (w64 (x2 * r2)) x3)))) Q))))) : am_E Ln d 186 12 [vR 82, vI x1, vI x2, vI x3, vI x4, vI x5, vU] [] σ Q :=
  am_vc_E (d := d) (m := 186) (cut := [(12, [true, true, true, true, true, true, false]), (64, [true, true, false, false, true, true, false]), (121, [true, true, false, false, false, true, false])]) 29 12 [vR 82, vI x1, vI x2, vI x3, vI x4, vI x5, vU] [] σ h
set_option maxRecDepth 100000 in
theorem vl_X12_takesByParts_64 {Ln : Int} {d : Nat} {Q : Option AV → AS → Prop} (σ : AS) (x1 x4 x5 : Int) (h :
  (σ 82 3 ≤ x5 →
    am_E Ln d 186 121 [vR 82, vI x1, vU, vU, vU, vI 0, vU] [] σ Q) ∧
  (¬ (σ 82 3 ≤ x5) →
    (x4 ≤ 0 →
      am_E Ln d 186 121 [vR 82, vI x1, vU, vU, vU, vI 0, vU] [] σ Q) ∧
    (¬ (x4 ≤ 0) →
      ∃ T : Option AV → AS → Prop, am_M Ln d 181 [vR 82, vI x1, vI x5] σ T ∧ ∀ (r2 : Int) s1, T (some (vI r2)) s1 →
      (0 ≤ x5 ∧ x5 < 10) ∧ ((s1 120 x5 < r2 →
        (0 ≤ x5 ∧ x5 < 10) ∧ ((0 ≤ x5 ∧ x5 < 10) ∧ (am_E Ln d 186 64 [vR 82, vI x1, vU, vU, vI (w32 (x4 + (-1))), vI (w32 (x5 + 1)), vU] [] (am_up s1 120 x5 (w32 (s1 120 x5 + 1))) Q))) ∧
      (¬ (s1 120 x5 < r2) →
        am_E Ln d 186 64 [vR 82, vI x1, vU, vU, vI x4, vI (w32 (x5 + 1)), vU] [] s1 Q))))) : am_E Ln d 186 64 [vR 82, vI x1, vU, vU, vI x4, vI x5, vU] [] σ Q :=
  am_vc_E (d := d) (m := 186) (cut := [(12, [true, true, true, true, true, true, false]), (64, [true, true, false, false, true, true, false]), (121, [true, true, false, false, false, true, false])]) 26 64 [vR 82, vI x1, vU, vU, vI x4, vI x5, vU] [] σ h
set_option maxRecDepth 100000 in
theorem vl_X12_takesByParts_121 {Ln : Int} {d : Nat} {Q : Option AV → AS → Prop} (σ : AS) (x1 x5 : Int) (h :
  (σ 82 3 ≤ x5 →
    Q none σ) ∧
  (¬ (σ 82 3 ≤ x5) →
    (0 ≤ x5 ∧ x5 < 10) ∧ (∃ T : Option AV → AS → Prop, am_M Ln d 185 [vR 82, vI x1, vI x5, vI 1, vI (σ 120 x5)] σ T ∧ ∀ (r2 : Int) s1, T (some (vI r2)) s1 →
    am_E Ln d 186 121 [vR 82, vI x1, vU, vU, vU, vI (w32 (x5 + 1)), vU] [] s1 Q))) : am_E Ln d 186 121 [vR 82, vI x1, vU, vU, vU, vI x5, vU] [] σ Q :=
  am_vc_E (d := d) (m := 186) (cut := [(12, [true, true, true, true, true, true, false]), (64, [true, true, false, false, true, true, false]), (121, [true, true, false, false, false, true, false])]) 16 121 [vR 82, vI x1, vU, vU, vU, vI x5, vU] [] σ h
set_option maxRecDepth 100000 in
theorem vm_X12_closes {Ln : Int} {d : Nat} {Q : Option AV → AS → Prop} (σ : AS) (a1 : Int) (h :
  (0 ≤ a1 ∧ a1 < 10) ∧ ((0 ≤ a1 ∧ a1 < 10) ∧ (am_E Ln d 187 20 [vR 82, vI a1, vI (σ 113 a1), vI (w32 (1400 * a1))] [] (am_up σ 113 a1 0) Q))) : am_M Ln (d + 1) 187 [vR 82, vI a1] σ Q :=
  am_vc_E (d := d) (m := 187) (cut := [(20, [true, true, true, true])]) 14 0 (am_entry 187 [vR 82, vI a1]) [] σ h
set_option maxRecDepth 100000 in
theorem vl_X12_closes_20 {Ln : Int} {d : Nat} {Q : Option AV → AS → Prop} (σ : AS) (x1 x2 x3 : Int) (h :
  (w32 (w32 (1400 * x1) + x2) ≤ x3 →
    Q none σ) ∧
  (¬ (w32 (w32 (1400 * x1) + x2) ≤ x3) →
    (0 ≤ x3 ∧ x3 < 14000) ∧ ((0 ≤ x3 ∧ x3 < 14000) ∧ (∃ T : Option AV → AS → Prop, am_M Ln d 179 [vR 82, vI x1, vI (σ 114 x3), vI (σ 115 x3)] σ T ∧ ∀ s1, T none s1 →
    am_E Ln d 187 20 [vR 82, vI x1, vI x2, vI (w32 (x3 + 1))] [] s1 Q)))) : am_E Ln d 187 20 [vR 82, vI x1, vI x2, vI x3] [] σ Q :=
  am_vc_E (d := d) (m := 187) (cut := [(20, [true, true, true, true])]) 20 20 [vR 82, vI x1, vI x2, vI x3] [] σ h
set_option maxRecDepth 100000 in
theorem vm_X12_takesOut {Ln : Int} {d : Nat} {Q : Option AV → AS → Prop} (σ : AS) (a1 a2 a3 : Int) (h :
  (a3 = 0 →
    ∃ T : Option AV → AS → Prop, am_M Ln d 185 [vR 82, vI a1, vI (-1), vI 0, vI a2] (am_up σ 82 54 0) T ∧ ∀ (r2 : Int) s1, T (some (vI r2)) s1 →
    ∃ T : Option AV → AS → Prop, am_M Ln d 187 [vR 82, vI a1] s1 T ∧ ∀ s3, T none s3 →
    Q none s3) ∧
  (¬ (a3 = 0) →
    (a3 = 1 →
      (0 ≤ a1 ∧ a1 < 10) ∧ (am_E Ln d 188 47 [vR 82, vI a1, vU, vU, vI a2, vI (w32 (w32 (w32 (1400 * a1) + (σ 113 a1)) - 1))] [] (am_up σ 82 54 0) Q)) ∧
    (¬ (a3 = 1) →
      (a3 = 2 →
        ∃ T : Option AV → AS → Prop, am_M Ln d 186 [vR 82, vI a1, vI a2] (am_up σ 82 54 0) T ∧ ∀ s4, T none s4 →
        ∃ T : Option AV → AS → Prop, am_M Ln d 187 [vR 82, vI a1] s4 T ∧ ∀ s5, T none s5 →
        Q none s5) ∧
      (¬ (a3 = 2) →
        (0 ≤ a1 ∧ a1 < 10) ∧ ((a3 = 3 →
          ∃ T : Option AV → AS → Prop, am_M Ln d 185 [vR 82, vI a1, vI (σ 84 a1), vI 1, vI a2] (am_up σ 82 54 0) T ∧ ∀ (r7 : Int) s6, T (some (vI r7)) s6 →
          (0 ≤ a1 ∧ a1 < 10) ∧ ((a3 = 3 →
            ∃ T : Option AV → AS → Prop, am_M Ln d 185 [vR 82, vI a1, vI (s6 84 a1), vI 0, vI r7] s6 T ∧ ∀ (r9 : Int) s8, T (some (vI r9)) s8 →
            ∃ T : Option AV → AS → Prop, am_M Ln d 187 [vR 82, vI a1] s8 T ∧ ∀ s10, T none s10 →
            Q none s10) ∧
          (¬ (a3 = 3) →
            ∃ T : Option AV → AS → Prop, am_M Ln d 185 [vR 82, vI a1, vI (s6 84 a1), vI 1, vI r7] s6 T ∧ ∀ (r12 : Int) s11, T (some (vI r12)) s11 →
            ∃ T : Option AV → AS → Prop, am_M Ln d 187 [vR 82, vI a1] s11 T ∧ ∀ s13, T none s13 →
            Q none s13))) ∧
        (¬ (a3 = 3) →
          ∃ T : Option AV → AS → Prop, am_M Ln d 185 [vR 82, vI a1, vI (σ 84 a1), vI 0, vI a2] (am_up σ 82 54 0) T ∧ ∀ (r15 : Int) s14, T (some (vI r15)) s14 →
          (0 ≤ a1 ∧ a1 < 10) ∧ ((a3 = 3 →
            ∃ T : Option AV → AS → Prop, am_M Ln d 185 [vR 82, vI a1, vI (s14 84 a1), vI 0, vI r15] s14 T ∧ ∀ (r17 : Int) s16, T (some (vI r17)) s16 →
            ∃ T : Option AV → AS → Prop, am_M Ln d 187 [vR 82, vI a1] s16 T ∧ ∀ s18, T none s18 →
            Q none s18) ∧
          (¬ (a3 = 3) →
            ∃ T : Option AV → AS → Prop, am_M Ln d 185 [vR 82, vI a1, vI (s14 84 a1), vI 1, vI r15] s14 T ∧ ∀ (r20 : Int) s19, T (some (vI r20)) s19 →
            ∃ T : Option AV → AS → Prop, am_M Ln d 187 [vR 82, vI a1] s19 T ∧ ∀ s21, T none s21 →
            Q none s21)))))))) : am_M Ln (d + 1) 188 [vR 82, vI a1, vI a2, vI a3] σ Q :=
  am_vc_E (d := d) (m := 188) (cut := [(47, [true, true, false, false, true, true])]) 45 0 (am_entry 188 [vR 82, vI a1, vI a2, vI a3]) [] σ h
set_option maxRecDepth 100000 in
theorem vl_X12_takesOut_47 {Ln : Int} {d : Nat} {Q : Option AV → AS → Prop} (σ : AS) (x1 x4 x5 : Int) (h :
  (x5 < w32 (1400 * x1) →
    ∃ T : Option AV → AS → Prop, am_M Ln d 187 [vR 82, vI x1] σ T ∧ ∀ s1, T none s1 →
    Q none s1) ∧
  (¬ (x5 < w32 (1400 * x1)) →
    ∃ T : Option AV → AS → Prop, am_M Ln d 184 [vR 82, vI x5, vI x4] σ T ∧ ∀ (r3 : Int) s2, T (some (vI r3)) s2 →
    am_E Ln d 188 47 [vR 82, vI x1, vU, vU, vI r3, vI (w32 (x5 + (-1)))] [] s2 Q)) : am_E Ln d 188 47 [vR 82, vI x1, vU, vU, vI x4, vI x5] [] σ Q :=
  am_vc_E (d := d) (m := 188) (cut := [(47, [true, true, false, false, true, true])]) 12 47 [vR 82, vI x1, vU, vU, vI x4, vI x5] [] σ h
set_option maxRecDepth 100000 in
theorem vm_X12_valueOf {Ln : Int} {d : Nat} {Q : Option AV → AS → Prop} (σ : AS) (a1 a2 : Int) (h :
  (0 ≤ a2 ∧ a2 < 100) ∧ ((a1 = 100 →
    (0 ≤ a2 ∧ a2 < 100) ∧ (Q (some (vI (σ 90 a2))) σ)) ∧
  (a1 = 100 + 1 →
    ∃ T : Option AV → AS → Prop, am_M Ln d 182 [vR 82, vI (σ 87 a2)] σ T ∧ ∀ (r2 : Int) s1, T (some (vI r2)) s1 →
    Q (some (vI r2)) s1) ∧
  (a1 = 100 + 1 + 1 →
    ∃ T : Option AV → AS → Prop, am_M Ln d 182 [vR 82, vI (σ 87 a2)] σ T ∧ ∀ (r4 : Int) s3, T (some (vI r4)) s3 →
    Q (some (vI r4)) s3) ∧
  (a1 = 100 + 1 + 1 + 1 →
    ∃ T : Option AV → AS → Prop, am_M Ln d 182 [vR 82, vI (σ 87 a2)] σ T ∧ ∀ (r6 : Int) s5, T (some (vI r6)) s5 →
    Q (some (vI r6)) s5) ∧
  (a1 = 100 + 1 + 1 + 1 + 1 →
    (0 ≤ σ 87 a2 ∧ σ 87 a2 < 10) ∧ (Q (some (vI (σ 84 (σ 87 a2)))) σ)) ∧
  (a1 = 100 + 1 + 1 + 1 + 1 + 1 →
    ∃ T : Option AV → AS → Prop, am_M Ln d 182 [vR 82, vI (σ 87 a2)] σ T ∧ ∀ (r8 : Int) s7, T (some (vI r8)) s7 →
    Q (some (vI r8)) s7) ∧
  (a1 = 100 + 1 + 1 + 1 + 1 + 1 + 1 →
    ∃ T : Option AV → AS → Prop, am_M Ln d 182 [vR 82, vI (σ 87 a2)] σ T ∧ ∀ (r10 : Int) s9, T (some (vI r10)) s9 →
    Q (some (vI r10)) s9) ∧
  (a1 = 100 + 1 + 1 + 1 + 1 + 1 + 1 + 1 →
    (0 ≤ a2 ∧ a2 < 100) ∧ (Q (some (vI (σ 86 a2))) σ)) ∧
  (a1 = 100 + 1 + 1 + 1 + 1 + 1 + 1 + 1 + 1 →
    ∃ T : Option AV → AS → Prop, am_M Ln d 182 [vR 82, vI (σ 87 a2)] σ T ∧ ∀ (r12 : Int) s11, T (some (vI r12)) s11 →
    Q (some (vI r12)) s11) ∧
  (a1 = 100 + 1 + 1 + 1 + 1 + 1 + 1 + 1 + 1 + 1 →
    ∃ T : Option AV → AS → Prop, am_M Ln d 182 [vR 82, vI (σ 87 a2)] σ T ∧ ∀ (r14 : Int) s13, T (some (vI r14)) s13 →
    Q (some (vI r14)) s13) ∧
  (a1 = 100 + 1 + 1 + 1 + 1 + 1 + 1 + 1 + 1 + 1 + 1 →
    ∃ T : Option AV → AS → Prop, am_M Ln d 182 [vR 82, vI (σ 87 a2)] σ T ∧ ∀ (r16 : Int) s15, T (some (vI r16)) s15 →
    Q (some (vI r16)) s15) ∧
  (a1 = 100 + 1 + 1 + 1 + 1 + 1 + 1 + 1 + 1 + 1 + 1 + 1 →
    (0 ≤ σ 87 a2 ∧ σ 87 a2 < 10) ∧ (∃ T : Option AV → AS → Prop, am_M Ln d 181 [vR 82, vI (σ 87 a2), vI (σ 84 (σ 87 a2))] σ T ∧ ∀ (r18 : Int) s17, T (some (vI r18)) s17 →
    Q (some (vI r18)) s17)) ∧
  (a1 = 100 + 1 + 1 + 1 + 1 + 1 + 1 + 1 + 1 + 1 + 1 + 1 + 1 →
    Q (some (vI (σ 87 a2))) σ) ∧
  (a1 = 100 + 1 + 1 + 1 + 1 + 1 + 1 + 1 + 1 + 1 + 1 + 1 + 1 + 1 →
    ∃ T : Option AV → AS → Prop, am_M Ln d 182 [vR 82, vI (σ 87 a2)] σ T ∧ ∀ (r20 : Int) s19, T (some (vI r20)) s19 →
    Q (some (vI r20)) s19) ∧
  (a1 = 100 + 1 + 1 + 1 + 1 + 1 + 1 + 1 + 1 + 1 + 1 + 1 + 1 + 1 + 1 →
    ∃ T : Option AV → AS → Prop, am_M Ln d 182 [vR 82, vI (σ 87 a2)] σ T ∧ ∀ (r22 : Int) s21, T (some (vI r22)) s21 →
    Q (some (vI r22)) s21) ∧
  (a1 = 100 + 1 + 1 + 1 + 1 + 1 + 1 + 1 + 1 + 1 + 1 + 1 + 1 + 1 + 1 + 1 →
    (0 ≤ a2 ∧ a2 < 100) ∧ (Q (some (vI (σ 89 a2))) σ)) ∧
  (a1 = 100 + 1 + 1 + 1 + 1 + 1 + 1 + 1 + 1 + 1 + 1 + 1 + 1 + 1 + 1 + 1 + 1 →
    ∃ T : Option AV → AS → Prop, am_M Ln d 180 [vR 82, vI (σ 87 a2)] σ T ∧ ∀ (r24 : Int) s23, T (some (vI r24)) s23 →
    Q (some (vI r24)) s23) ∧
  (a1 < 100 ∨ 116 < a1 →
    ∃ T : Option AV → AS → Prop, am_M Ln d 182 [vR 82, vI (σ 87 a2)] σ T ∧ ∀ (r26 : Int) s25, T (some (vI r26)) s25 →
    Q (some (vI r26)) s25) ∧ True)) : am_M Ln (d + 1) 189 [vR 82, vI a1, vI a2] σ Q :=
  am_vc_E (d := d) (m := 189) (cut := []) 15 0 (am_entry 189 [vR 82, vI a1, vI a2]) [] σ h
set_option maxRecDepth 100000 in
theorem vm_X12_worked {Ln : Int} {d : Nat} {Q : Option AV → AS → Prop} (σ : AS) (a1 a2 a3 : Int) (h :
  (a1 = 37 →
    (lCmp a3 0 = 0 →
      Q (some (vL 0)) σ) ∧
    (¬ (lCmp a3 0 = 0) →
      ¬ a3 = 0 ∧ (Q (some (vL (Int.tmod a2 a3))) σ))) ∧
  (a1 = 42 →
    Q (some (vL (w64 (a2 * a3)))) σ) ∧
  (a1 = 43 →
    Q (some (vL (w64 (a2 + a3)))) σ) ∧
  (a1 = 45 →
    Q (some (vL (w64 (a2 - a3)))) σ) ∧
  (a1 = 47 →
    (lCmp a3 0 = 0 →
      Q (some (vL 0)) σ) ∧
    (¬ (lCmp a3 0 = 0) →
      ¬ a3 = 0 ∧ (Q (some (vL (w64 (Int.tdiv a2 a3)))) σ))) ∧
  (a1 = 60 →
    (0 ≤ lCmp a2 a3 →
      Q (some (vL 0)) σ) ∧
    (¬ (0 ≤ lCmp a2 a3) →
      Q (some (vL 1)) σ)) ∧
  (a1 = 62 →
    (lCmp a2 a3 ≤ 0 →
      Q (some (vL 0)) σ) ∧
    (¬ (lCmp a2 a3 ≤ 0) →
      Q (some (vL 1)) σ)) ∧
  (am_ne a1 [(37, 93), (42, 75), (43, 67), (45, 71), (47, 79), (60, 107), (62, 119)] →
    (lCmp a2 a3 = 0 →
      Q (some (vL 1)) σ) ∧
    (¬ (lCmp a2 a3 = 0) →
      Q (some (vL 0)) σ)) ∧ True) : am_M Ln (d + 1) 190 [vI a1, vL a2, vL a3] σ Q :=
  am_vc_E (d := d) (m := 190) (cut := []) 10 0 (am_entry 190 [vI a1, vL a2, vL a3]) [] σ h
set_option maxRecDepth 100000 in
theorem vm_X12_does {Ln : Int} {d : Nat} {Q : Option AV → AS → Prop} (σ : AS) (a1 a2 : Int) (h :
  (a1 = 38 →
    (0 ≤ a2 ∧ a2 < 200) ∧ ((σ 123 a2 = 0 →
      (0 ≤ a2 ∧ a2 < 200) ∧ ((a1 = 38 →
        (lCmp (σ 122 a2) 1 = 0 →
          (0 ≤ w32 (a2 + 1) ∧ w32 (a2 + 1) < 200) ∧ ((0 ≤ a2 ∧ a2 < 200) ∧ ((0 ≤ w32 (a2 + 1) ∧ w32 (a2 + 1) < 200) ∧ ((0 ≤ a2 ∧ a2 < 200) ∧ (Q none (am_up (am_up σ 122 a2 (σ 122 (w32 (a2 + 1)))) 123 a2 (bAnd (σ 123 (w32 (a2 + 1))) 1))))))) ∧
        (¬ (lCmp (σ 122 a2) 1 = 0) →
          Q none σ)) ∧
      (¬ (a1 = 38) →
        (lCmp (σ 122 a2) 0 = 0 →
          (0 ≤ w32 (a2 + 1) ∧ w32 (a2 + 1) < 200) ∧ ((0 ≤ a2 ∧ a2 < 200) ∧ ((0 ≤ w32 (a2 + 1) ∧ w32 (a2 + 1) < 200) ∧ ((0 ≤ a2 ∧ a2 < 200) ∧ (Q none (am_up (am_up σ 122 a2 (σ 122 (w32 (a2 + 1)))) 123 a2 (bAnd (σ 123 (w32 (a2 + 1))) 1))))))) ∧
        (¬ (lCmp (σ 122 a2) 0 = 0) →
          Q none σ)))) ∧
    (¬ (σ 123 a2 = 0) →
      Q none σ))) ∧
  (¬ (a1 = 38) →
    (a1 = 124 →
      (0 ≤ a2 ∧ a2 < 200) ∧ ((σ 123 a2 = 0 →
        (0 ≤ a2 ∧ a2 < 200) ∧ ((a1 = 38 →
          (lCmp (σ 122 a2) 1 = 0 →
            (0 ≤ w32 (a2 + 1) ∧ w32 (a2 + 1) < 200) ∧ ((0 ≤ a2 ∧ a2 < 200) ∧ ((0 ≤ w32 (a2 + 1) ∧ w32 (a2 + 1) < 200) ∧ ((0 ≤ a2 ∧ a2 < 200) ∧ (Q none (am_up (am_up σ 122 a2 (σ 122 (w32 (a2 + 1)))) 123 a2 (bAnd (σ 123 (w32 (a2 + 1))) 1))))))) ∧
          (¬ (lCmp (σ 122 a2) 1 = 0) →
            Q none σ)) ∧
        (¬ (a1 = 38) →
          (lCmp (σ 122 a2) 0 = 0 →
            (0 ≤ w32 (a2 + 1) ∧ w32 (a2 + 1) < 200) ∧ ((0 ≤ a2 ∧ a2 < 200) ∧ ((0 ≤ w32 (a2 + 1) ∧ w32 (a2 + 1) < 200) ∧ ((0 ≤ a2 ∧ a2 < 200) ∧ (Q none (am_up (am_up σ 122 a2 (σ 122 (w32 (a2 + 1)))) 123 a2 (bAnd (σ 123 (w32 (a2 + 1))) 1))))))) ∧
          (¬ (lCmp (σ 122 a2) 0 = 0) →
            Q none σ)))) ∧
      (¬ (σ 123 a2 = 0) →
        Q none σ))) ∧
    (¬ (a1 = 124) →
      (0 ≤ a2 ∧ a2 < 200) ∧ ((σ 123 a2 = 0 →
        (0 ≤ w32 (a2 + 1) ∧ w32 (a2 + 1) < 200) ∧ ((σ 123 (w32 (a2 + 1)) = 0 →
          (a1 = 47 →
            (0 ≤ w32 (a2 + 1) ∧ w32 (a2 + 1) < 200) ∧ ((lCmp (σ 122 (w32 (a2 + 1))) 0 = 0 →
              (0 ≤ a2 ∧ a2 < 200) ∧ ((0 ≤ a2 ∧ a2 < 200) ∧ ((0 ≤ w32 (a2 + 1) ∧ w32 (a2 + 1) < 200) ∧ (∃ T : Option AV → AS → Prop, am_M Ln d 190 [vI a1, vL (σ 122 a2), vL (σ 122 (w32 (a2 + 1)))] (am_up σ 123 a2 (bAnd 1 1)) T ∧ ∀ (r2 : Int) s1, T (some (vL r2)) s1 →
              (0 ≤ a2 ∧ a2 < 200) ∧ (Q none (am_up s1 122 a2 r2)))))) ∧
            (¬ (lCmp (σ 122 (w32 (a2 + 1))) 0 = 0) →
              (0 ≤ a2 ∧ a2 < 200) ∧ ((0 ≤ a2 ∧ a2 < 200) ∧ ((0 ≤ w32 (a2 + 1) ∧ w32 (a2 + 1) < 200) ∧ (∃ T : Option AV → AS → Prop, am_M Ln d 190 [vI a1, vL (σ 122 a2), vL (σ 122 (w32 (a2 + 1)))] (am_up σ 123 a2 (bAnd 0 1)) T ∧ ∀ (r4 : Int) s3, T (some (vL r4)) s3 →
              (0 ≤ a2 ∧ a2 < 200) ∧ (Q none (am_up s3 122 a2 r4)))))))) ∧
          (¬ (a1 = 47) →
            (a1 = 37 →
              (0 ≤ w32 (a2 + 1) ∧ w32 (a2 + 1) < 200) ∧ ((lCmp (σ 122 (w32 (a2 + 1))) 0 = 0 →
                (0 ≤ a2 ∧ a2 < 200) ∧ ((0 ≤ a2 ∧ a2 < 200) ∧ ((0 ≤ w32 (a2 + 1) ∧ w32 (a2 + 1) < 200) ∧ (∃ T : Option AV → AS → Prop, am_M Ln d 190 [vI a1, vL (σ 122 a2), vL (σ 122 (w32 (a2 + 1)))] (am_up σ 123 a2 (bAnd 1 1)) T ∧ ∀ (r6 : Int) s5, T (some (vL r6)) s5 →
                (0 ≤ a2 ∧ a2 < 200) ∧ (Q none (am_up s5 122 a2 r6)))))) ∧
              (¬ (lCmp (σ 122 (w32 (a2 + 1))) 0 = 0) →
                (0 ≤ a2 ∧ a2 < 200) ∧ ((0 ≤ a2 ∧ a2 < 200) ∧ ((0 ≤ w32 (a2 + 1) ∧ w32 (a2 + 1) < 200) ∧ (∃ T : Option AV → AS → Prop, am_M Ln d 190 [vI a1, vL (σ 122 a2), vL (σ 122 (w32 (a2 + 1)))] (am_up σ 123 a2 (bAnd 0 1)) T ∧ ∀ (r8 : Int) s7, T (some (vL r8)) s7 →
                (0 ≤ a2 ∧ a2 < 200) ∧ (Q none (am_up s7 122 a2 r8)))))))) ∧
            (¬ (a1 = 37) →
              (0 ≤ a2 ∧ a2 < 200) ∧ ((0 ≤ a2 ∧ a2 < 200) ∧ ((0 ≤ w32 (a2 + 1) ∧ w32 (a2 + 1) < 200) ∧ (∃ T : Option AV → AS → Prop, am_M Ln d 190 [vI a1, vL (σ 122 a2), vL (σ 122 (w32 (a2 + 1)))] (am_up σ 123 a2 (bAnd 0 1)) T ∧ ∀ (r10 : Int) s9, T (some (vL r10)) s9 →
              (0 ≤ a2 ∧ a2 < 200) ∧ (Q none (am_up s9 122 a2 r10)))))))) ∧
        (¬ (σ 123 (w32 (a2 + 1)) = 0) →
          (0 ≤ a2 ∧ a2 < 200) ∧ ((0 ≤ a2 ∧ a2 < 200) ∧ ((0 ≤ w32 (a2 + 1) ∧ w32 (a2 + 1) < 200) ∧ (∃ T : Option AV → AS → Prop, am_M Ln d 190 [vI a1, vL (σ 122 a2), vL (σ 122 (w32 (a2 + 1)))] (am_up σ 123 a2 (bAnd 1 1)) T ∧ ∀ (r12 : Int) s11, T (some (vL r12)) s11 →
          (0 ≤ a2 ∧ a2 < 200) ∧ (Q none (am_up s11 122 a2 r12)))))))) ∧
      (¬ (σ 123 a2 = 0) →
        (0 ≤ a2 ∧ a2 < 200) ∧ ((0 ≤ a2 ∧ a2 < 200) ∧ ((0 ≤ w32 (a2 + 1) ∧ w32 (a2 + 1) < 200) ∧ (∃ T : Option AV → AS → Prop, am_M Ln d 190 [vI a1, vL (σ 122 a2), vL (σ 122 (w32 (a2 + 1)))] (am_up σ 123 a2 (bAnd 1 1)) T ∧ ∀ (r14 : Int) s13, T (some (vL r14)) s13 →
        (0 ≤ a2 ∧ a2 < 200) ∧ (Q none (am_up s13 122 a2 r14)))))))))) : am_M Ln (d + 1) 191 [vR 82, vI a1, vI a2] σ Q :=
  am_vc_E (d := d) (m := 191) (cut := []) 54 0 (am_entry 191 [vR 82, vI a1, vI a2]) [] σ h
set_option maxRecDepth 100000 in
theorem vm_X12_holds {Ln : Int} {d : Nat} {Q : Option AV → AS → Prop} (σ : AS) (a1 a2 : Int) (h :
  ¬ (12 : Int) = 0 ∧ ((0 ≤ a1 ∧ a1 < 240) ∧ (am_E Ln d 192 23 [vR 82, vI a1, vI a2, vI 0, vI (w32 ((w32 (Int.tdiv a1 12)) * 160)), vI (w32 (w32 ((w32 (Int.tdiv a1 12)) * 160) + (σ 104 a1)))] [] σ Q))) : am_M Ln (d + 1) 192 [vR 82, vI a1, vI a2] σ Q :=
  am_vc_E (d := d) (m := 192) (cut := [(23, [true, true, true, true, true, true])]) 15 0 (am_entry 192 [vR 82, vI a1, vI a2]) [] σ h
set_option maxRecDepth 100000 in
theorem vl_X12_holds_23 {Ln : Int} {d : Nat} {Q : Option AV → AS → Prop} (σ : AS) (x1 x2 x3 x4 x5 : Int) (h :
  (0 ≤ x1 ∧ x1 < 240) ∧ ((w32 (x4 + (σ 105 x1)) ≤ x5 →
    (0 ≤ (0 : Int) ∧ (0 : Int) < 200) ∧ ((σ 123 0 = 0 →
      (0 ≤ (0 : Int) ∧ (0 : Int) < 200) ∧ ((lCmp (σ 122 0) 1 = 0 →
        am_b 1 ∧ Q (some (vI 1)) σ) ∧
      (¬ (lCmp (σ 122 0) 1 = 0) →
        am_b 0 ∧ Q (some (vI 0)) σ))) ∧
    (¬ (σ 123 0 = 0) →
      am_b 0 ∧ Q (some (vI 0)) σ))) ∧
  (¬ (w32 (x4 + (σ 105 x1)) ≤ x5) →
    (0 ≤ x5 ∧ x5 < 3200) ∧ ((σ 106 x5 ≤ 2 →
      (0 ≤ x5 ∧ x5 < 3200) ∧ ((σ 106 x5 = 2 →
        (0 ≤ w32 (x3 - 1) ∧ w32 (x3 - 1) < 200) ∧ ((0 ≤ w32 (x3 - 1) ∧ w32 (x3 - 1) < 200) ∧ (am_E Ln d 192 23 [vR 82, vI x1, vI x2, vI x3, vI x4, vI (w32 (x5 + 1))] [] (am_up σ 122 (w32 (x3 - 1)) (w64 (1 - (σ 122 (w32 (x3 - 1)))))) Q))) ∧
      (¬ (σ 106 x5 = 2) →
        (0 ≤ x3 ∧ x3 < 200) ∧ ((0 ≤ x5 ∧ x5 < 3200) ∧ ((σ 106 x5 = 0 →
          (0 ≤ x5 ∧ x5 < 3200) ∧ ((0 ≤ x3 ∧ x3 < 200) ∧ (am_E Ln d 192 23 [vR 82, vI x1, vI x2, vI (w32 (x3 + 1)), vI x4, vI (w32 (x5 + 1))] [] (am_up (am_up σ 123 x3 (bAnd 0 1)) 122 x3 (σ 107 x5)) Q))) ∧
        (¬ (σ 106 x5 = 0) →
          (0 ≤ x5 ∧ x5 < 3200) ∧ (∃ T : Option AV → AS → Prop, am_M Ln d 189 [vR 82, vI (σ 107 x5), vI x2] (am_up σ 123 x3 (bAnd 0 1)) T ∧ ∀ (r2 : Int) s1, T (some (vI r2)) s1 →
          (0 ≤ x3 ∧ x3 < 200) ∧ (am_E Ln d 192 23 [vR 82, vI x1, vI x2, vI (w32 (x3 + 1)), vI x4, vI (w32 (x5 + 1))] [] (am_up s1 122 x3 r2) Q)))))))) ∧
    (¬ (σ 106 x5 ≤ 2) →
      (0 ≤ x5 ∧ x5 < 3200) ∧ (∃ T : Option AV → AS → Prop, am_M Ln d 191 [vR 82, vI (σ 106 x5), vI (w32 (w32 (x3 + (-1)) - 1))] σ T ∧ ∀ s3, T none s3 →
      am_E Ln d 192 23 [vR 82, vI x1, vI x2, vI (w32 (x3 + (-1))), vI x4, vI (w32 (x5 + 1))] [] s3 Q)))))) : am_E Ln d 192 23 [vR 82, vI x1, vI x2, vI x3, vI x4, vI x5] [] σ Q :=
  am_vc_E (d := d) (m := 192) (cut := [(23, [true, true, true, true, true, true])]) 45 23 [vR 82, vI x1, vI x2, vI x3, vI x4, vI x5] [] σ h
set_option maxRecDepth 100000 in
theorem vm_X12_isAmong {Ln : Int} {d : Nat} {Q : Option AV → AS → Prop} (σ : AS) (a1 a2 a3 a4 : Int) (h :
  (0 ≤ a1 ∧ a1 < 20) ∧ ((σ 96 a1 = a2 →
    (0 ≤ a1 ∧ a1 < 20) ∧ ((a4 < σ 99 a1 →
      am_b 0 ∧ Q (some (vI 0)) σ) ∧
    (¬ (a4 < σ 99 a1) →
      (0 ≤ a1 ∧ a1 < 20) ∧ ((0 ≤ a1 ∧ a1 < 20) ∧ (∃ T : Option AV → AS → Prop, am_M Ln d 134 [vL a3, vL (σ 97 a1), vL (σ 98 a1)] σ T ∧ ∀ (r2 : Int) s1, T (some (vI r2)) s1 →
      (r2 = 0 →
        am_b 0 ∧ Q (some (vI 0)) s1) ∧
      (¬ (r2 = 0) →
        am_b 1 ∧ Q (some (vI 1)) s1)))))) ∧
  (¬ (σ 96 a1 = a2) →
    am_b 0 ∧ Q (some (vI 0)) σ))) : am_M Ln (d + 1) 193 [vR 82, vI a1, vI a2, vI a3, vI a4] σ Q :=
  am_vc_E (d := d) (m := 193) (cut := []) 29 0 (am_entry 193 [vR 82, vI a1, vI a2, vI a3, vI a4]) [] σ h
set_option maxRecDepth 100000 in
theorem vm_X12_clauseOf {Ln : Int} {d : Nat} {Q : Option AV → AS → Prop} (σ : AS) (a1 a2 a3 a4 : Int) (h :
  am_E Ln d 194 3 [vR 82, vI a1, vI a2, vI a3, vI a4, vI 0, vU] [] σ Q) : am_M Ln (d + 1) 194 [vR 82, vI a1, vI a2, vI a3, vI a4] σ Q :=
  am_vc_E (d := d) (m := 194) (cut := [(3, [true, true, true, true, true, true, false]), (37, [true, true, true, true, true, true, false]), (70, [true, true, true, true, true, true, true]), (159, [true, true, true, true, true, true, true])]) 2 0 (am_entry 194 [vR 82, vI a1, vI a2, vI a3, vI a4]) [] σ h
set_option maxRecDepth 100000 in
theorem vl_X12_clauseOf_3 {Ln : Int} {d : Nat} {Q : Option AV → AS → Prop} (σ : AS) (x1 x2 x3 x4 x5 : Int) (h :
  (w32 (12 * (σ 82 7)) ≤ x5 →
    am_E Ln d 194 37 [vR 82, vI x1, vI x2, vI x3, vI x4, vI (w32 (σ 82 7 - 1)), vU] [] σ Q) ∧
  (¬ (w32 (12 * (σ 82 7)) ≤ x5) →
    (0 ≤ x5 ∧ x5 < 240) ∧ (am_E Ln d 194 3 [vR 82, vI x1, vI x2, vI x3, vI x4, vI (w32 (x5 + 1)), vU] [] (am_up σ 124 x5 (bAnd 0 1)) Q))) : am_E Ln d 194 3 [vR 82, vI x1, vI x2, vI x3, vI x4, vI x5, vU] [] σ Q :=
  am_vc_E (d := d) (m := 194) (cut := [(3, [true, true, true, true, true, true, false]), (37, [true, true, true, true, true, true, false]), (70, [true, true, true, true, true, true, true]), (159, [true, true, true, true, true, true, true])]) 13 3 [vR 82, vI x1, vI x2, vI x3, vI x4, vI x5, vU] [] σ h
set_option maxRecDepth 100000 in
theorem vl_X12_clauseOf_37 {Ln : Int} {d : Nat} {Q : Option AV → AS → Prop} (σ : AS) (x1 x2 x3 x4 x5 : Int) (h :
  (x5 < 0 →
    Q (some (vI (-1))) σ) ∧
  (¬ (x5 < 0) →
    (0 ≤ x3 ∧ x3 < 100) ∧ (∃ T : Option AV → AS → Prop, am_M Ln d 193 [vR 82, vI x5, vI x2, vI (σ 90 x3), vI x4] σ T ∧ ∀ (r2 : Int) s1, T (some (vI r2)) s1 →
    (r2 = 0 →
      am_E Ln d 194 37 [vR 82, vI x1, vI x2, vI x3, vI x4, vI (w32 (x5 + (-1))), vU] [] s1 Q) ∧
    (¬ (r2 = 0) →
      am_E Ln d 194 70 [vR 82, vI x1, vI x2, vI x3, vI x4, vI x5, vI (w32 (12 * x5))] [] s1 Q)))) : am_E Ln d 194 37 [vR 82, vI x1, vI x2, vI x3, vI x4, vI x5, vU] [] σ Q :=
  am_vc_E (d := d) (m := 194) (cut := [(3, [true, true, true, true, true, true, false]), (37, [true, true, true, true, true, true, false]), (70, [true, true, true, true, true, true, true]), (159, [true, true, true, true, true, true, true])]) 16 37 [vR 82, vI x1, vI x2, vI x3, vI x4, vI x5, vU] [] σ h
set_option maxRecDepth 100000 in
theorem vl_X12_clauseOf_70 {Ln : Int} {d : Nat} {Q : Option AV → AS → Prop} (σ : AS) (x1 x2 x3 x4 x5 x6 : Int) (h :
  (0 ≤ x5 ∧ x5 < 20) ∧ ((w32 (w32 (12 * x5) + (σ 100 x5)) ≤ x6 →
    am_E Ln d 194 159 [vR 82, vI x1, vI x2, vI x3, vI x4, vI x5, vI (w32 (12 * x5))] [] σ Q) ∧
  (¬ (w32 (w32 (12 * x5) + (σ 100 x5)) ≤ x6) →
    (0 ≤ x6 ∧ x6 < 240) ∧ ((σ 101 x6 = 120 →
      (0 ≤ x6 ∧ x6 < 240) ∧ ((σ 124 x6 = 0 →
        (0 ≤ x6 ∧ x6 < 240) ∧ ((x5 ≤ σ 102 x6 →
          am_E Ln d 194 70 [vR 82, vI x1, vI x2, vI x3, vI x4, vI x5, vI (w32 (x6 + 1))] [] σ Q) ∧
        (¬ (x5 ≤ σ 102 x6) →
          (0 ≤ x6 ∧ x6 < 240) ∧ ((0 ≤ x6 ∧ x6 < 240) ∧ ((0 ≤ w32 (w32 (12 * (σ 102 x6)) + (σ 103 x6)) ∧ w32 (w32 (12 * (σ 102 x6)) + (σ 103 x6)) < 240) ∧ (am_E Ln d 194 70 [vR 82, vI x1, vI x2, vI x3, vI x4, vI x5, vI (w32 (x6 + 1))] [] (am_up σ 124 (w32 (w32 (12 * (σ 102 x6)) + (σ 103 x6))) (bAnd 1 1)) Q)))))) ∧
      (¬ (σ 124 x6 = 0) →
        am_E Ln d 194 70 [vR 82, vI x1, vI x2, vI x3, vI x4, vI x5, vI (w32 (x6 + 1))] [] σ Q))) ∧
    (¬ (σ 101 x6 = 120) →
      am_E Ln d 194 70 [vR 82, vI x1, vI x2, vI x3, vI x4, vI x5, vI (w32 (x6 + 1))] [] σ Q))))) : am_E Ln d 194 70 [vR 82, vI x1, vI x2, vI x3, vI x4, vI x5, vI x6] [] σ Q :=
  am_vc_E (d := d) (m := 194) (cut := [(3, [true, true, true, true, true, true, false]), (37, [true, true, true, true, true, true, false]), (70, [true, true, true, true, true, true, true]), (159, [true, true, true, true, true, true, true])]) 44 70 [vR 82, vI x1, vI x2, vI x3, vI x4, vI x5, vI x6] [] σ h
set_option maxRecDepth 100000 in
theorem vl_X12_clauseOf_159 {Ln : Int} {d : Nat} {Q : Option AV → AS → Prop} (σ : AS) (x1 x2 x3 x4 x5 x6 : Int) (h :
  (0 ≤ x5 ∧ x5 < 20) ∧ ((w32 (w32 (12 * x5) + (σ 100 x5)) ≤ x6 →
    am_E Ln d 194 37 [vR 82, vI x1, vI x2, vI x3, vI x4, vI (w32 (x5 + (-1))), vU] [] σ Q) ∧
  (¬ (w32 (w32 (12 * x5) + (σ 100 x5)) ≤ x6) →
    (0 ≤ x6 ∧ x6 < 240) ∧ ((σ 101 x6 = x1 →
      (0 ≤ x6 ∧ x6 < 240) ∧ ((σ 124 x6 = 0 →
        ∃ T : Option AV → AS → Prop, am_M Ln d 192 [vR 82, vI x6, vI x3] σ T ∧ ∀ (r2 : Int) s1, T (some (vI r2)) s1 →
        (r2 = 0 →
          am_E Ln d 194 159 [vR 82, vI x1, vI x2, vI x3, vI x4, vI x5, vI (w32 (x6 + 1))] [] s1 Q) ∧
        (¬ (r2 = 0) →
          Q (some (vI x6)) s1)) ∧
      (¬ (σ 124 x6 = 0) →
        am_E Ln d 194 159 [vR 82, vI x1, vI x2, vI x3, vI x4, vI x5, vI (w32 (x6 + 1))] [] σ Q))) ∧
    (¬ (σ 101 x6 = x1) →
      am_E Ln d 194 159 [vR 82, vI x1, vI x2, vI x3, vI x4, vI x5, vI (w32 (x6 + 1))] [] σ Q))))) : am_E Ln d 194 159 [vR 82, vI x1, vI x2, vI x3, vI x4, vI x5, vI x6] [] σ Q :=
  am_vc_E (d := d) (m := 194) (cut := [(3, [true, true, true, true, true, true, false]), (37, [true, true, true, true, true, true, false]), (70, [true, true, true, true, true, true, true]), (159, [true, true, true, true, true, true, true])]) 28 159 [vR 82, vI x1, vI x2, vI x3, vI x4, vI x5, vI x6] [] σ h
set_option maxRecDepth 100000 in
theorem vm_X12_wayOf {Ln : Int} {d : Nat} {Q : Option AV → AS → Prop} (σ : AS) (a1 a2 : Int) (h :
  (0 ≤ a1 ∧ a1 < 100) ∧ ((0 ≤ σ 87 a1 ∧ σ 87 a1 < 10) ∧ ((σ 121 (σ 87 a1) = (-1) →
    (0 ≤ a1 ∧ a1 < 100) ∧ ((0 ≤ σ 87 a1 ∧ σ 87 a1 < 10) ∧ (∃ T : Option AV → AS → Prop, am_M Ln d 194 [vR 82, vI 119, vI (σ 85 (σ 87 a1)), vI a1, vI a2] σ T ∧ ∀ (r2 : Int) s1, T (some (vI r2)) s1 →
    (r2 = (-1) →
      Q (some (vI 0)) s1) ∧
    (¬ (r2 = (-1)) →
      (0 ≤ r2 ∧ r2 < 240) ∧ (Q (some (vI (s1 102 r2))) s1))))) ∧
  (¬ (σ 121 (σ 87 a1) = (-1)) →
    (0 ≤ a1 ∧ a1 < 100) ∧ ((0 ≤ σ 87 a1 ∧ σ 87 a1 < 10) ∧ (Q (some (vI (σ 121 (σ 87 a1)))) σ)))))) : am_M Ln (d + 1) 195 [vR 82, vI a1, vI a2] σ Q :=
  am_vc_E (d := d) (m := 195) (cut := []) 30 0 (am_entry 195 [vR 82, vI a1, vI a2]) [] σ h
set_option maxRecDepth 100000 in
theorem vm_X12_moves {Ln : Int} {d : Nat} {Q : Option AV → AS → Prop} (σ : AS) (a1 a2 a3 : Int) (h :
  (0 ≤ a1 ∧ a1 < 100) ∧ (am_E Ln d 196 11 [vR 82, vI a1, vI a2, vI a3, vI (σ 88 a1), vI 0, vU, vU] [] σ Q)) : am_M Ln (d + 1) 196 [vR 82, vI a1, vI a2, vI a3] σ Q :=
  am_vc_E (d := d) (m := 196) (cut := [(11, [true, true, true, true, true, true, false, false])]) 7 0 (am_entry 196 [vR 82, vI a1, vI a2, vI a3]) [] σ h
set_option maxRecDepth 100000 in
theorem vl_X12_moves_11 {Ln : Int} {d : Nat} {Q : Option AV → AS → Prop} (σ : AS) (x1 x2 x3 x4 x5 : Int) (h :
  (σ 82 54 ≤ x5 →
    Q none σ) ∧
  (¬ (σ 82 54 ≤ x5) →
    (0 ≤ x5 ∧ x5 < 1500) ∧ ((x2 = 0 →
      ((0 : Int) = 0 →
        (0 ≤ x5 ∧ x5 < 1500) ∧ (∃ T : Option AV → AS → Prop, am_M Ln d 179 [vR 82, vI x4, vI (σ 118 x5), vI (σ 119 x5)] σ T ∧ ∀ s1, T none s1 →
        am_E Ln d 196 11 [vR 82, vI x1, vI x2, vI x3, vI x4, vI (w32 (x5 + 1)), vU, vU] [] s1 Q)) ∧
      (¬ ((0 : Int) = 0) →
        (0 ≤ x4 ∧ x4 < 10) ∧ ((0 ≤ x5 ∧ x5 < 1500) ∧ (∃ T : Option AV → AS → Prop, am_M Ln d 179 [vR 82, vI x4, vI (σ 84 x4), vI (σ 119 x5)] σ T ∧ ∀ s2, T none s2 →
        am_E Ln d 196 11 [vR 82, vI x1, vI x2, vI x3, vI x4, vI (w32 (x5 + 1)), vU, vU] [] s2 Q)))) ∧
    (¬ (x2 = 0) →
      (0 ≤ x4 ∧ x4 < 10) ∧ ((0 ≤ x1 ∧ x1 < 100) ∧ (∃ T : Option AV → AS → Prop, am_M Ln d 177 [vR 82, vI (σ 84 x4), vI (σ 118 x5), vI (σ 90 x1), vI x3] σ T ∧ ∀ (r4 : Int) s3, T (some (vI r4)) s3 →
      (r4 = 0 →
        ((1 : Int) = 0 →
          (0 ≤ x5 ∧ x5 < 1500) ∧ (∃ T : Option AV → AS → Prop, am_M Ln d 179 [vR 82, vI x4, vI (σ 118 x5), vI (s3 119 x5)] s3 T ∧ ∀ s5, T none s5 →
          am_E Ln d 196 11 [vR 82, vI x1, vI x2, vI x3, vI x4, vI (w32 (x5 + 1)), vU, vU] [] s5 Q)) ∧
        (¬ ((1 : Int) = 0) →
          (0 ≤ x4 ∧ x4 < 10) ∧ ((0 ≤ x5 ∧ x5 < 1500) ∧ (∃ T : Option AV → AS → Prop, am_M Ln d 179 [vR 82, vI x4, vI (s3 84 x4), vI (s3 119 x5)] s3 T ∧ ∀ s6, T none s6 →
          am_E Ln d 196 11 [vR 82, vI x1, vI x2, vI x3, vI x4, vI (w32 (x5 + 1)), vU, vU] [] s6 Q)))) ∧
      (¬ (r4 = 0) →
        ((0 : Int) = 0 →
          (0 ≤ x5 ∧ x5 < 1500) ∧ (∃ T : Option AV → AS → Prop, am_M Ln d 179 [vR 82, vI x4, vI (σ 118 x5), vI (s3 119 x5)] s3 T ∧ ∀ s7, T none s7 →
          am_E Ln d 196 11 [vR 82, vI x1, vI x2, vI x3, vI x4, vI (w32 (x5 + 1)), vU, vU] [] s7 Q)) ∧
        (¬ ((0 : Int) = 0) →
          (0 ≤ x4 ∧ x4 < 10) ∧ ((0 ≤ x5 ∧ x5 < 1500) ∧ (∃ T : Option AV → AS → Prop, am_M Ln d 179 [vR 82, vI x4, vI (s3 84 x4), vI (s3 119 x5)] s3 T ∧ ∀ s8, T none s8 →
          am_E Ln d 196 11 [vR 82, vI x1, vI x2, vI x3, vI x4, vI (w32 (x5 + 1)), vU, vU] [] s8 Q)))))))))) : am_E Ln d 196 11 [vR 82, vI x1, vI x2, vI x3, vI x4, vI x5, vU, vU] [] σ Q :=
  am_vc_E (d := d) (m := 196) (cut := [(11, [true, true, true, true, true, true, false, false])]) 43 11 [vR 82, vI x1, vI x2, vI x3, vI x4, vI x5, vU, vU] [] σ h
set_option maxRecDepth 100000 in
theorem vm_X12_spends {Ln : Int} {d : Nat} {Q : Option AV → AS → Prop} (σ : AS) (a1 : Int) (h :
  am_E Ln d 197 2 [vR 82, vI a1, vI 0] [] σ Q) : am_M Ln (d + 1) 197 [vR 82, vI a1] σ Q :=
  am_vc_E (d := d) (m := 197) (cut := [(2, [true, true, true])]) 2 0 (am_entry 197 [vR 82, vI a1]) [] σ h
set_option maxRecDepth 100000 in
theorem vl_X12_spends_2 {Ln : Int} {d : Nat} {Q : Option AV → AS → Prop} (σ : AS) (x1 x2 : Int) (h :
  (σ 82 54 ≤ x2 →
    Q none σ) ∧
  (¬ (σ 82 54 ≤ x2) →
    (0 ≤ x2 ∧ x2 < 1500) ∧ ((0 ≤ x1 ∧ x1 < 100) ∧ ((0 ≤ σ 87 x1 ∧ σ 87 x1 < 10) ∧ ((σ 118 x2 = σ 84 (σ 87 x1) →
      am_E Ln d 197 2 [vR 82, vI x1, vI (w32 (x2 + 1))] [] σ Q) ∧
    (¬ (σ 118 x2 = σ 84 (σ 87 x1)) →
      (0 ≤ x1 ∧ x1 < 100) ∧ ((0 ≤ x2 ∧ x2 < 1500) ∧ ((0 ≤ w32 (w32 (10 * (σ 87 x1)) + (σ 118 x2)) ∧ w32 (w32 (10 * (σ 87 x1)) + (σ 118 x2)) < 100) ∧ ((0 ≤ x2 ∧ x2 < 1500) ∧ ((0 ≤ w32 (w32 (10 * (σ 87 x1)) + (σ 118 x2)) ∧ w32 (w32 (10 * (σ 87 x1)) + (σ 118 x2)) < 100) ∧ (am_E Ln d 197 2 [vR 82, vI x1, vI (w32 (x2 + 1))] [] (am_up σ 117 (w32 (w32 (10 * (σ 87 x1)) + (σ 118 x2))) (w32 (σ 117 (w32 (w32 (10 * (σ 87 x1)) + (σ 118 x2))) + (σ 119 x2)))) Q))))))))))) : am_E Ln d 197 2 [vR 82, vI x1, vI x2] [] σ Q :=
  am_vc_E (d := d) (m := 197) (cut := [(2, [true, true, true])]) 39 2 [vR 82, vI x1, vI x2] [] σ h
set_option maxRecDepth 100000 in
theorem vm_X12_buys {Ln : Int} {d : Nat} {Q : Option AV → AS → Prop} (σ : AS) (a1 : Int) (h :
  am_E Ln d 198 2 [vR 82, vI a1, vI 0] [] σ Q) : am_M Ln (d + 1) 198 [vR 82, vI a1] σ Q :=
  am_vc_E (d := d) (m := 198) (cut := [(2, [true, true, true])]) 2 0 (am_entry 198 [vR 82, vI a1]) [] σ h
set_option maxRecDepth 100000 in
theorem vl_X12_buys_2 {Ln : Int} {d : Nat} {Q : Option AV → AS → Prop} (σ : AS) (x1 x2 : Int) (h :
  (σ 82 54 ≤ x2 →
    Q none σ) ∧
  (¬ (σ 82 54 ≤ x2) →
    (0 ≤ x1 ∧ x1 < 100) ∧ ((0 ≤ x2 ∧ x2 < 1500) ∧ ((0 ≤ w32 (w32 (10 * (σ 88 x1)) + (σ 118 x2)) ∧ w32 (w32 (10 * (σ 88 x1)) + (σ 118 x2)) < 100) ∧ ((0 ≤ x2 ∧ x2 < 1500) ∧ ((0 ≤ w32 (w32 (10 * (σ 88 x1)) + (σ 118 x2)) ∧ w32 (w32 (10 * (σ 88 x1)) + (σ 118 x2)) < 100) ∧ (am_E Ln d 198 2 [vR 82, vI x1, vI (w32 (x2 + 1))] [] (am_up σ 116 (w32 (w32 (10 * (σ 88 x1)) + (σ 118 x2))) (w32 (σ 116 (w32 (w32 (10 * (σ 88 x1)) + (σ 118 x2))) + (σ 119 x2)))) Q))))))) : am_E Ln d 198 2 [vR 82, vI x1, vI x2] [] σ Q :=
  am_vc_E (d := d) (m := 198) (cut := [(2, [true, true, true])]) 27 2 [vR 82, vI x1, vI x2] [] σ h
set_option maxRecDepth 100000 in
theorem vm_X12_partsOut {Ln : Int} {d : Nat} {Q : Option AV → AS → Prop} (σ : AS) (a1 a2 a3 : Int) (h :
  am_E Ln d 199 6 [vR 82, vI a1, vI a2, vI a3, vI 0, vI 0, vU] [] σ Q) : am_M Ln (d + 1) 199 [vR 82, vI a1, vI a2, vI a3] σ Q :=
  am_vc_E (d := d) (m := 199) (cut := [(6, [true, true, true, true, true, true, false]), (54, [true, true, true, true, true, true, true]), (122, [true, true, false, true, false, true, true])]) 4 0 (am_entry 199 [vR 82, vI a1, vI a2, vI a3]) [] σ h
set_option maxRecDepth 100000 in
theorem vl_X12_partsOut_6 {Ln : Int} {d : Nat} {Q : Option AV → AS → Prop} (σ : AS) (x1 x2 x3 x4 x5 : Int) (h :
  (σ 82 3 ≤ x5 →
    am_E Ln d 199 54 [vR 82, vI x1, vI x2, vI x3, vI x4, vI x2, vI 0] [] σ Q) ∧
  (¬ (σ 82 3 ≤ x5) →
    (x5 = x3 →
      am_E Ln d 199 6 [vR 82, vI x1, vI x2, vI x3, vI (w32 (x4 + 0)), vI (w32 (x5 + 1)), vU] [] σ Q) ∧
    (¬ (x5 = x3) →
      (0 ≤ w32 (w32 (10 * x1) + x5) ∧ w32 (w32 (10 * x1) + x5) < 100) ∧ (am_E Ln d 199 6 [vR 82, vI x1, vI x2, vI x3, vI (w32 (x4 + (σ 116 (w32 (w32 (10 * x1) + x5))))), vI (w32 (x5 + 1)), vU] [] σ Q)))) : am_E Ln d 199 6 [vR 82, vI x1, vI x2, vI x3, vI x4, vI x5, vU] [] σ Q :=
  am_vc_E (d := d) (m := 199) (cut := [(6, [true, true, true, true, true, true, false]), (54, [true, true, true, true, true, true, true]), (122, [true, true, false, true, false, true, true])]) 20 6 [vR 82, vI x1, vI x2, vI x3, vI x4, vI x5, vU] [] σ h
set_option maxRecDepth 100000 in
theorem vl_X12_partsOut_54 {Ln : Int} {d : Nat} {Q : Option AV → AS → Prop} (σ : AS) (x1 x2 x3 x4 x5 x6 : Int) (h :
  (σ 82 3 ≤ x6 →
    am_E Ln d 199 122 [vR 82, vI x1, vU, vI x3, vU, vI x5, vI 0] [] σ Q) ∧
  (¬ (σ 82 3 ≤ x6) →
    (x6 = x3 →
      (0 ≤ x6 ∧ x6 < 10) ∧ ((0 ≤ x6 ∧ x6 < 10) ∧ (am_E Ln d 199 54 [vR 82, vI x1, vI x2, vI x3, vI x4, vI (w32 (x5 - ((am_up σ 125 x6 0) 125 x6))), vI (w32 (x6 + 1))] [] (am_up σ 125 x6 0) Q))) ∧
    (¬ (x6 = x3) →
      (0 ≤ w32 (w32 (10 * x1) + x6) ∧ w32 (w32 (10 * x1) + x6) < 100) ∧ (¬ x4 = 0 ∧ ((0 ≤ x6 ∧ x6 < 10) ∧ ((0 ≤ x6 ∧ x6 < 10) ∧ (am_E Ln d 199 54 [vR 82, vI x1, vI x2, vI x3, vI x4, vI (w32 (x5 - ((am_up σ 125 x6 (w32 (w64 (Int.tdiv (w64 (x2 * (σ 116 (w32 (w32 (10 * x1) + x6))))) x4)))) 125 x6))), vI (w32 (x6 + 1))] [] (am_up σ 125 x6 (w32 (w64 (Int.tdiv (w64 (x2 * (σ 116 (w32 (w32 (10 * x1) + x6))))) x4)))) Q))))))) : am_E Ln d 199 54 [vR 82, vI x1, vI x2, vI x3, vI x4, vI x5, vI x6] [] σ Q :=
  am_vc_E (d := d) (m := 199) (cut := [(6, [true, true, true, true, true, true, false]), (54, [true, true, true, true, true, true, true]), (122, [true, true, false, true, false, true, true])]) 36 54 [vR 82, vI x1, vI x2, vI x3, vI x4, vI x5, vI x6] [] σ h
set_option maxRecDepth 100000 in
theorem vl_X12_partsOut_122 {Ln : Int} {d : Nat} {Q : Option AV → AS → Prop} (σ : AS) (x1 x3 x5 x6 : Int) (h :
  (σ 82 3 ≤ x6 →
    Q none σ) ∧
  (¬ (σ 82 3 ≤ x6) →
    (x5 ≤ 0 →
      Q none σ) ∧
    (¬ (x5 ≤ 0) →
      (x6 = x3 →
        am_E Ln d 199 122 [vR 82, vI x1, vU, vI x3, vU, vI x5, vI (w32 (x6 + 1))] [] σ Q) ∧
      (¬ (x6 = x3) →
        (0 ≤ w32 (w32 (10 * x1) + x6) ∧ w32 (w32 (10 * x1) + x6) < 100) ∧ ((σ 116 (w32 (w32 (10 * x1) + x6)) = 0 →
          am_E Ln d 199 122 [vR 82, vI x1, vU, vI x3, vU, vI x5, vI (w32 (x6 + 1))] [] σ Q) ∧
        (¬ (σ 116 (w32 (w32 (10 * x1) + x6)) = 0) →
          (0 ≤ x6 ∧ x6 < 10) ∧ ((0 ≤ x6 ∧ x6 < 10) ∧ (am_E Ln d 199 122 [vR 82, vI x1, vU, vI x3, vU, vI (w32 (x5 + (-1))), vI (w32 (x6 + 1))] [] (am_up σ 125 x6 (w32 (σ 125 x6 + 1))) Q)))))))) : am_E Ln d 199 122 [vR 82, vI x1, vU, vI x3, vU, vI x5, vI x6] [] σ Q :=
  am_vc_E (d := d) (m := 199) (cut := [(6, [true, true, true, true, true, true, false]), (54, [true, true, true, true, true, true, true]), (122, [true, true, false, true, false, true, true])]) 29 122 [vR 82, vI x1, vU, vI x3, vU, vI x5, vI x6] [] σ h
set_option maxRecDepth 100000 in
theorem vm_X12_sells {Ln : Int} {d : Nat} {Q : Option AV → AS → Prop} (σ : AS) (a1 a2 : Int) (h :
  (0 ≤ a1 ∧ a1 < 100) ∧ ((0 ≤ a1 ∧ a1 < 100) ∧ ((0 ≤ σ 87 a1 ∧ σ 87 a1 < 10) ∧ ((0 ≤ a1 ∧ a1 < 100) ∧ ((0 ≤ σ 87 a1 ∧ σ 87 a1 < 10) ∧ (∃ T : Option AV → AS → Prop, am_M Ln d 194 [vR 82, vI 114, vI (σ 85 (σ 87 a1)), vI a1, vI a2] σ T ∧ ∀ (r2 : Int) s1, T (some (vI r2)) s1 →
  (r2 = (-1) →
    am_E Ln d 200 56 [vR 82, vI a1, vU, vI (σ 88 a1), vI (σ 84 (σ 87 a1)), vI 0, vI 0, vI 0, vU] [] s1 Q) ∧
  (¬ (r2 = (-1)) →
    am_E Ln d 200 56 [vR 82, vI a1, vU, vI (σ 88 a1), vI (σ 84 (σ 87 a1)), vI 1, vI 0, vI 0, vU] [] s1 Q))))))) : am_M Ln (d + 1) 200 [vR 82, vI a1, vI a2] σ Q :=
  am_vc_E (d := d) (m := 200) (cut := [(56, [true, true, false, true, true, true, true, true, false]), (184, [true, true, false, true, true, false, false, true, true]), (240, [true, true, false, true, false, false, false, false, true])]) 34 0 (am_entry 200 [vR 82, vI a1, vI a2]) [] σ h
set_option maxRecDepth 100000 in
theorem vl_X12_sells_56 {Ln : Int} {d : Nat} {Q : Option AV → AS → Prop} (σ : AS) (x1 x3 x4 x5 x6 x7 : Int) (h :
  (σ 82 3 ≤ x7 →
    (0 ≤ w32 (w32 (10 * x3) + x4) ∧ w32 (w32 (10 * x3) + x4) < 100) ∧ ((x6 = 0 →
      (0 ≤ x1 ∧ x1 < 100) ∧ ((0 ≤ x4 ∧ x4 < 10) ∧ (am_E Ln d 200 240 [vR 82, vI x1, vU, vI x3, vU, vU, vU, vU, vI 0] [] (am_up σ 125 x4 (σ 89 x1)) Q))) ∧
    (¬ (x6 = 0) →
      (x5 = 0 →
        (0 ≤ x1 ∧ x1 < 100) ∧ ((w32 (x6 - (σ 116 (w32 (w32 (10 * x3) + x4)))) ≤ σ 89 x1 →
          am_E Ln d 200 184 [vR 82, vI x1, vU, vI x3, vI x4, vU, vU, vI (w32 (x6 - (σ 116 (w32 (w32 (10 * x3) + x4))))), vI 0] [] σ Q) ∧
        (¬ (w32 (x6 - (σ 116 (w32 (w32 (10 * x3) + x4)))) ≤ σ 89 x1) →
          (0 ≤ x1 ∧ x1 < 100) ∧ (∃ T : Option AV → AS → Prop, am_M Ln d 199 [vR 82, vI x3, vI (σ 89 x1), vI x4] σ T ∧ ∀ s1, T none s1 →
          am_E Ln d 200 240 [vR 82, vI x1, vU, vI x3, vU, vU, vU, vU, vI 0] [] s1 Q)))) ∧
      (¬ (x5 = 0) →
        (0 ≤ x1 ∧ x1 < 100) ∧ (∃ T : Option AV → AS → Prop, am_M Ln d 199 [vR 82, vI x3, vI (σ 89 x1), vI (-1)] σ T ∧ ∀ s2, T none s2 →
        am_E Ln d 200 240 [vR 82, vI x1, vU, vI x3, vU, vU, vU, vU, vI 0] [] s2 Q))))) ∧
  (¬ (σ 82 3 ≤ x7) →
    (0 ≤ w32 (w32 (10 * x3) + x7) ∧ w32 (w32 (10 * x3) + x7) < 100) ∧ ((0 ≤ x7 ∧ x7 < 10) ∧ (am_E Ln d 200 56 [vR 82, vI x1, vU, vI x3, vI x4, vI x5, vI (w32 (x6 + (σ 116 (w32 (w32 (10 * x3) + x7))))), vI (w32 (x7 + 1)), vU] [] (am_up σ 125 x7 0) Q)))) : am_E Ln d 200 56 [vR 82, vI x1, vU, vI x3, vI x4, vI x5, vI x6, vI x7, vU] [] σ Q :=
  am_vc_E (d := d) (m := 200) (cut := [(56, [true, true, false, true, true, true, true, true, false]), (184, [true, true, false, true, true, false, false, true, true]), (240, [true, true, false, true, false, false, false, false, true])]) 36 56 [vR 82, vI x1, vU, vI x3, vI x4, vI x5, vI x6, vI x7, vU] [] σ h
set_option maxRecDepth 100000 in
theorem vl_X12_sells_184 {Ln : Int} {d : Nat} {Q : Option AV → AS → Prop} (σ : AS) (x1 x3 x4 x7 x8 : Int) (h :
  (σ 82 3 ≤ x8 →
    am_E Ln d 200 240 [vR 82, vI x1, vU, vI x3, vU, vU, vU, vU, vI 0] [] σ Q) ∧
  (¬ (σ 82 3 ≤ x8) →
    (x8 = x4 →
      (0 ≤ x1 ∧ x1 < 100) ∧ ((0 ≤ x8 ∧ x8 < 10) ∧ (am_E Ln d 200 184 [vR 82, vI x1, vU, vI x3, vI x4, vU, vU, vI x7, vI (w32 (x8 + 1))] [] (am_up σ 125 x8 (w32 (σ 89 x1 - x7))) Q))) ∧
    (¬ (x8 = x4) →
      (0 ≤ w32 (w32 (10 * x3) + x8) ∧ w32 (w32 (10 * x3) + x8) < 100) ∧ ((0 ≤ x8 ∧ x8 < 10) ∧ (am_E Ln d 200 184 [vR 82, vI x1, vU, vI x3, vI x4, vU, vU, vI x7, vI (w32 (x8 + 1))] [] (am_up σ 125 x8 (σ 116 (w32 (w32 (10 * x3) + x8)))) Q))))) : am_E Ln d 200 184 [vR 82, vI x1, vU, vI x3, vI x4, vU, vU, vI x7, vI x8] [] σ Q :=
  am_vc_E (d := d) (m := 200) (cut := [(56, [true, true, false, true, true, true, true, true, false]), (184, [true, true, false, true, true, false, false, true, true]), (240, [true, true, false, true, false, false, false, false, true])]) 21 184 [vR 82, vI x1, vU, vI x3, vI x4, vU, vU, vI x7, vI x8] [] σ h
set_option maxRecDepth 100000 in
theorem vl_X12_sells_240 {Ln : Int} {d : Nat} {Q : Option AV → AS → Prop} (σ : AS) (x1 x3 x8 : Int) (h :
  (σ 82 3 ≤ x8 →
    Q none σ) ∧
  (¬ (σ 82 3 ≤ x8) →
    (0 ≤ w32 (w32 (10 * x3) + x8) ∧ w32 (w32 (10 * x3) + x8) < 100) ∧ ((0 ≤ x1 ∧ x1 < 100) ∧ ((0 ≤ x8 ∧ x8 < 10) ∧ (∃ T : Option AV → AS → Prop, am_M Ln d 179 [vR 82, vI (σ 87 x1), vI x8, vI (σ 125 x8)] (am_up σ 116 (w32 (w32 (10 * x3) + x8)) 0) T ∧ ∀ s1, T none s1 →
    am_E Ln d 200 240 [vR 82, vI x1, vU, vI x3, vU, vU, vU, vU, vI (w32 (x8 + 1))] [] s1 Q))))) : am_E Ln d 200 240 [vR 82, vI x1, vU, vI x3, vU, vU, vU, vU, vI x8] [] σ Q :=
  am_vc_E (d := d) (m := 200) (cut := [(56, [true, true, false, true, true, true, true, true, false]), (184, [true, true, false, true, true, false, false, true, true]), (240, [true, true, false, true, false, false, false, false, true])]) 26 240 [vR 82, vI x1, vU, vI x3, vU, vU, vU, vU, vI x8] [] σ h
set_option maxRecDepth 100000 in
theorem vm_X12_makesGood {Ln : Int} {d : Nat} {Q : Option AV → AS → Prop} (σ : AS) (a1 : Int) (h :
  (0 ≤ a1 ∧ a1 < 100) ∧ ((0 ≤ a1 ∧ a1 < 100) ∧ ((0 ≤ w32 (w32 (10 * (σ 87 a1)) + (σ 88 a1)) ∧ w32 (w32 (10 * (σ 87 a1)) + (σ 88 a1)) < 100) ∧ ((0 ≤ a1 ∧ a1 < 100) ∧ ((σ 89 a1 ≤ σ 117 (w32 (w32 (10 * (σ 87 a1)) + (σ 88 a1))) →
    (0 ≤ a1 ∧ a1 < 100) ∧ ((0 ≤ w32 (w32 (10 * (σ 87 a1)) + (σ 88 a1)) ∧ w32 (w32 (10 * (σ 87 a1)) + (σ 88 a1)) < 100) ∧ ((0 ≤ w32 (w32 (10 * (σ 87 a1)) + (σ 88 a1)) ∧ w32 (w32 (10 * (σ 87 a1)) + (σ 88 a1)) < 100) ∧ ((0 ≤ a1 ∧ a1 < 100) ∧ ((0 ≤ σ 88 a1 ∧ σ 88 a1 < 10) ∧ ((0 ≤ σ 88 a1 ∧ σ 88 a1 < 10) ∧ ((0 ≤ σ 87 a1 ∧ σ 87 a1 < 10) ∧ ((0 ≤ σ 84 (σ 87 a1) ∧ σ 84 (σ 87 a1) < 10) ∧ ((0 ≤ a1 ∧ a1 < 100) ∧ ((0 ≤ σ 84 (σ 87 a1) ∧ σ 84 (σ 87 a1) < 10) ∧ ((0 ≤ a1 ∧ a1 < 100) ∧ (∃ T : Option AV → AS → Prop, am_M Ln d 179 [vR 82, vI (σ 87 a1), vI (σ 88 a1), vI (σ 89 a1)] (am_up (am_up (am_up σ 117 (w32 (w32 (10 * (σ 87 a1)) + (σ 88 a1))) (w32 (σ 117 (w32 (w32 (10 * (σ 87 a1)) + (σ 88 a1))) - (σ 89 a1)))) 125 (σ 88 a1) (w32 (σ 125 (σ 88 a1) + (σ 89 a1)))) 125 (σ 84 (σ 87 a1)) (w32 ((am_up (am_up σ 117 (w32 (w32 (10 * (σ 87 a1)) + (σ 88 a1))) (w32 (σ 117 (w32 (w32 (10 * (σ 87 a1)) + (σ 88 a1))) - (σ 89 a1)))) 125 (σ 88 a1) (w32 (σ 125 (σ 88 a1) + (σ 89 a1)))) 125 (σ 84 (σ 87 a1)) + (w32 (σ 89 a1 - (σ 89 a1)))))) T ∧ ∀ s1, T none s1 →
    (0 ≤ σ 87 a1 ∧ σ 87 a1 < 10) ∧ ((0 ≤ a1 ∧ a1 < 100) ∧ (∃ T : Option AV → AS → Prop, am_M Ln d 179 [vR 82, vI (σ 87 a1), vI (s1 84 (σ 87 a1)), vI (w32 (s1 89 a1 - (σ 89 a1)))] s1 T ∧ ∀ s2, T none s2 →
    Q none s2)))))))))))))) ∧
  (¬ (σ 89 a1 ≤ σ 117 (w32 (w32 (10 * (σ 87 a1)) + (σ 88 a1)))) →
    (0 ≤ w32 (w32 (10 * (σ 87 a1)) + (σ 88 a1)) ∧ w32 (w32 (10 * (σ 87 a1)) + (σ 88 a1)) < 100) ∧ ((0 ≤ w32 (w32 (10 * (σ 87 a1)) + (σ 88 a1)) ∧ w32 (w32 (10 * (σ 87 a1)) + (σ 88 a1)) < 100) ∧ ((0 ≤ w32 (w32 (10 * (σ 87 a1)) + (σ 88 a1)) ∧ w32 (w32 (10 * (σ 87 a1)) + (σ 88 a1)) < 100) ∧ ((0 ≤ a1 ∧ a1 < 100) ∧ ((0 ≤ σ 88 a1 ∧ σ 88 a1 < 10) ∧ ((0 ≤ σ 88 a1 ∧ σ 88 a1 < 10) ∧ ((0 ≤ σ 87 a1 ∧ σ 87 a1 < 10) ∧ ((0 ≤ σ 84 (σ 87 a1) ∧ σ 84 (σ 87 a1) < 10) ∧ ((0 ≤ a1 ∧ a1 < 100) ∧ ((0 ≤ σ 84 (σ 87 a1) ∧ σ 84 (σ 87 a1) < 10) ∧ ((0 ≤ a1 ∧ a1 < 100) ∧ (∃ T : Option AV → AS → Prop, am_M Ln d 179 [vR 82, vI (σ 87 a1), vI (σ 88 a1), vI (σ 117 (w32 (w32 (10 * (σ 87 a1)) + (σ 88 a1))))] (am_up (am_up (am_up σ 117 (w32 (w32 (10 * (σ 87 a1)) + (σ 88 a1))) (w32 (σ 117 (w32 (w32 (10 * (σ 87 a1)) + (σ 88 a1))) - (σ 117 (w32 (w32 (10 * (σ 87 a1)) + (σ 88 a1))))))) 125 (σ 88 a1) (w32 (σ 125 (σ 88 a1) + (σ 117 (w32 (w32 (10 * (σ 87 a1)) + (σ 88 a1))))))) 125 (σ 84 (σ 87 a1)) (w32 ((am_up (am_up σ 117 (w32 (w32 (10 * (σ 87 a1)) + (σ 88 a1))) (w32 (σ 117 (w32 (w32 (10 * (σ 87 a1)) + (σ 88 a1))) - (σ 117 (w32 (w32 (10 * (σ 87 a1)) + (σ 88 a1))))))) 125 (σ 88 a1) (w32 (σ 125 (σ 88 a1) + (σ 117 (w32 (w32 (10 * (σ 87 a1)) + (σ 88 a1))))))) 125 (σ 84 (σ 87 a1)) + (w32 (σ 89 a1 - (σ 117 (w32 (w32 (10 * (σ 87 a1)) + (σ 88 a1))))))))) T ∧ ∀ s3, T none s3 →
    (0 ≤ σ 87 a1 ∧ σ 87 a1 < 10) ∧ ((0 ≤ a1 ∧ a1 < 100) ∧ (∃ T : Option AV → AS → Prop, am_M Ln d 179 [vR 82, vI (σ 87 a1), vI (s3 84 (σ 87 a1)), vI (w32 (s3 89 a1 - (σ 117 (w32 (w32 (10 * (σ 87 a1)) + (σ 88 a1))))))] s3 T ∧ ∀ s4, T none s4 →
    Q none s4))))))))))))))))))) : am_M Ln (d + 1) 201 [vR 82, vI a1] σ Q :=
  am_vc_E (d := d) (m := 201) (cut := []) 86 0 (am_entry 201 [vR 82, vI a1]) [] σ h
set_option maxRecDepth 100000 in
theorem vm_X12_acts {Ln : Int} {d : Nat} {Q : Option AV → AS → Prop} (σ : AS) (a1 a2 : Int) (h :
  (0 ≤ a1 ∧ a1 < 100) ∧ (am_E Ln d 202 15 [vR 82, vI a1, vI a2, vI (σ 87 a1), vI 0, vU] [] (am_up σ 82 54 0) Q)) : am_M Ln (d + 1) 202 [vR 82, vI a1, vI a2] σ Q :=
  am_vc_E (d := d) (m := 202) (cut := [(15, [true, true, true, true, true, false])]) 10 0 (am_entry 202 [vR 82, vI a1, vI a2]) [] σ h
set_option maxRecDepth 100000 in
theorem vl_X12_acts_15 {Ln : Int} {d : Nat} {Q : Option AV → AS → Prop} (σ : AS) (x1 x2 x3 x4 : Int) (h :
  (10 ≤ x4 →
    (0 ≤ x1 ∧ x1 < 100) ∧ ((σ 86 x1 = 0 →
      (0 ≤ x1 ∧ x1 < 100) ∧ ((0 ≤ x1 ∧ x1 < 100) ∧ ((0 ≤ σ 88 x1 ∧ σ 88 x1 < 10) ∧ ((0 ≤ x1 ∧ x1 < 100) ∧ ((0 ≤ x1 ∧ x1 < 100) ∧ (∃ T : Option AV → AS → Prop, am_M Ln d 179 [vR 82, vI x3, vI (σ 88 x1), vI (σ 89 x1)] (am_up σ 125 (σ 88 x1) (σ 89 x1)) T ∧ ∀ s1, T none s1 →
      am_b 1 ∧ Q (some (vI 1)) s1)))))) ∧
    (¬ (σ 86 x1 = 0) →
      (0 ≤ x1 ∧ x1 < 100) ∧ ((σ 86 x1 = 4 →
        ∃ T : Option AV → AS → Prop, am_M Ln d 200 [vR 82, vI x1, vI x2] σ T ∧ ∀ s2, T none s2 →
        am_b 1 ∧ Q (some (vI 1)) s2) ∧
      (¬ (σ 86 x1 = 4) →
        (0 ≤ x1 ∧ x1 < 100) ∧ ((σ 86 x1 = 5 →
          ∃ T : Option AV → AS → Prop, am_M Ln d 201 [vR 82, vI x1] σ T ∧ ∀ s3, T none s3 →
          am_b 1 ∧ Q (some (vI 1)) s3) ∧
        (¬ (σ 86 x1 = 5) →
          ∃ T : Option AV → AS → Prop, am_M Ln d 195 [vR 82, vI x1, vI x2] σ T ∧ ∀ (r5 : Int) s4, T (some (vI r5)) s4 →
          (0 ≤ x1 ∧ x1 < 100) ∧ ((s4 86 x1 = 1 →
            (0 ≤ x1 ∧ x1 < 100) ∧ ((s4 95 x1 = 0 →
              ∃ T : Option AV → AS → Prop, am_M Ln d 180 [vR 82, vI x3] s4 T ∧ ∀ (r7 : Int) s6, T (some (vI r7)) s6 →
              (0 ≤ x1 ∧ x1 < 100) ∧ ((s6 89 x1 ≤ r7 →
                (0 ≤ x1 ∧ x1 < 100) ∧ (∃ T : Option AV → AS → Prop, am_M Ln d 188 [vR 82, vI x3, vI (s6 89 x1), vI r5] s6 T ∧ ∀ s8, T none s8 →
                (0 ≤ x1 ∧ x1 < 100) ∧ ((s8 86 x1 = 1 →
                  ∃ T : Option AV → AS → Prop, am_M Ln d 196 [vR 82, vI x1, vI 0, vI x2] s8 T ∧ ∀ s9, T none s9 →
                  am_b 1 ∧ Q (some (vI 1)) s9) ∧
                (¬ (s8 86 x1 = 1) →
                  (0 ≤ x1 ∧ x1 < 100) ∧ ((s8 86 x1 = 2 →
                    ∃ T : Option AV → AS → Prop, am_M Ln d 197 [vR 82, vI x1] s8 T ∧ ∀ s10, T none s10 →
                    am_b 1 ∧ Q (some (vI 1)) s10) ∧
                  (¬ (s8 86 x1 = 2) →
                    ∃ T : Option AV → AS → Prop, am_M Ln d 198 [vR 82, vI x1] s8 T ∧ ∀ s11, T none s11 →
                    am_b 1 ∧ Q (some (vI 1)) s11)))))) ∧
              (¬ (s6 89 x1 ≤ r7) →
                am_b 0 ∧ Q (some (vI 0)) s6))) ∧
            (¬ (s4 95 x1 = 0) →
              (0 ≤ x1 ∧ x1 < 100) ∧ ((0 ≤ s4 88 x1 ∧ s4 88 x1 < 10) ∧ (∃ T : Option AV → AS → Prop, am_M Ln d 194 [vR 82, vI 103, vI (s4 85 (s4 88 x1)), vI x1, vI x2] s4 T ∧ ∀ (r13 : Int) s12, T (some (vI r13)) s12 →
              (r13 = (-1) →
                ∃ T : Option AV → AS → Prop, am_M Ln d 180 [vR 82, vI x3] s12 T ∧ ∀ (r15 : Int) s14, T (some (vI r15)) s14 →
                (0 ≤ x1 ∧ x1 < 100) ∧ ((s14 89 x1 ≤ r15 →
                  (0 ≤ x1 ∧ x1 < 100) ∧ (∃ T : Option AV → AS → Prop, am_M Ln d 188 [vR 82, vI x3, vI (s14 89 x1), vI r5] s14 T ∧ ∀ s16, T none s16 →
                  (0 ≤ x1 ∧ x1 < 100) ∧ ((s16 86 x1 = 1 →
                    ∃ T : Option AV → AS → Prop, am_M Ln d 196 [vR 82, vI x1, vI 0, vI x2] s16 T ∧ ∀ s17, T none s17 →
                    am_b 1 ∧ Q (some (vI 1)) s17) ∧
                  (¬ (s16 86 x1 = 1) →
                    (0 ≤ x1 ∧ x1 < 100) ∧ ((s16 86 x1 = 2 →
                      ∃ T : Option AV → AS → Prop, am_M Ln d 197 [vR 82, vI x1] s16 T ∧ ∀ s18, T none s18 →
                      am_b 1 ∧ Q (some (vI 1)) s18) ∧
                    (¬ (s16 86 x1 = 2) →
                      ∃ T : Option AV → AS → Prop, am_M Ln d 198 [vR 82, vI x1] s16 T ∧ ∀ s19, T none s19 →
                      am_b 1 ∧ Q (some (vI 1)) s19)))))) ∧
                (¬ (s14 89 x1 ≤ r15) →
                  am_b 0 ∧ Q (some (vI 0)) s14))) ∧
              (¬ (r13 = (-1)) →
                ∃ T : Option AV → AS → Prop, am_M Ln d 180 [vR 82, vI x3] s12 T ∧ ∀ (r21 : Int) s20, T (some (vI r21)) s20 →
                (0 ≤ x1 ∧ x1 < 100) ∧ ((s20 89 x1 ≤ r21 →
                  (0 ≤ x1 ∧ x1 < 100) ∧ (∃ T : Option AV → AS → Prop, am_M Ln d 188 [vR 82, vI x3, vI (s20 89 x1), vI r5] s20 T ∧ ∀ s22, T none s22 →
                  (0 ≤ x1 ∧ x1 < 100) ∧ ((s22 86 x1 = 1 →
                    ∃ T : Option AV → AS → Prop, am_M Ln d 196 [vR 82, vI x1, vI 1, vI x2] s22 T ∧ ∀ s23, T none s23 →
                    am_b 1 ∧ Q (some (vI 1)) s23) ∧
                  (¬ (s22 86 x1 = 1) →
                    (0 ≤ x1 ∧ x1 < 100) ∧ ((s22 86 x1 = 2 →
                      ∃ T : Option AV → AS → Prop, am_M Ln d 197 [vR 82, vI x1] s22 T ∧ ∀ s24, T none s24 →
                      am_b 1 ∧ Q (some (vI 1)) s24) ∧
                    (¬ (s22 86 x1 = 2) →
                      ∃ T : Option AV → AS → Prop, am_M Ln d 198 [vR 82, vI x1] s22 T ∧ ∀ s25, T none s25 →
                      am_b 1 ∧ Q (some (vI 1)) s25)))))) ∧
                (¬ (s20 89 x1 ≤ r21) →
                  am_b 0 ∧ Q (some (vI 0)) s20)))))))) ∧
          (¬ (s4 86 x1 = 1) →
            ∃ T : Option AV → AS → Prop, am_M Ln d 180 [vR 82, vI x3] s4 T ∧ ∀ (r27 : Int) s26, T (some (vI r27)) s26 →
            (0 ≤ x1 ∧ x1 < 100) ∧ ((s26 89 x1 ≤ r27 →
              (0 ≤ x1 ∧ x1 < 100) ∧ (∃ T : Option AV → AS → Prop, am_M Ln d 188 [vR 82, vI x3, vI (s26 89 x1), vI r5] s26 T ∧ ∀ s28, T none s28 →
              (0 ≤ x1 ∧ x1 < 100) ∧ ((s28 86 x1 = 1 →
                ∃ T : Option AV → AS → Prop, am_M Ln d 196 [vR 82, vI x1, vI 0, vI x2] s28 T ∧ ∀ s29, T none s29 →
                am_b 1 ∧ Q (some (vI 1)) s29) ∧
              (¬ (s28 86 x1 = 1) →
                (0 ≤ x1 ∧ x1 < 100) ∧ ((s28 86 x1 = 2 →
                  ∃ T : Option AV → AS → Prop, am_M Ln d 197 [vR 82, vI x1] s28 T ∧ ∀ s30, T none s30 →
                  am_b 1 ∧ Q (some (vI 1)) s30) ∧
                (¬ (s28 86 x1 = 2) →
                  ∃ T : Option AV → AS → Prop, am_M Ln d 198 [vR 82, vI x1] s28 T ∧ ∀ s31, T none s31 →
                  am_b 1 ∧ Q (some (vI 1)) s31)))))) ∧
            (¬ (s26 89 x1 ≤ r27) →
              am_b 0 ∧ Q (some (vI 0)) s26))))))))))) ∧
  (¬ (10 ≤ x4) →
    (0 ≤ x4 ∧ x4 < 10) ∧ (am_E Ln d 202 15 [vR 82, vI x1, vI x2, vI x3, vI (w32 (x4 + 1)), vU] [] (am_up σ 125 x4 0) Q))) : am_E Ln d 202 15 [vR 82, vI x1, vI x2, vI x3, vI x4, vU] [] σ Q :=
  am_vc_E (d := d) (m := 202) (cut := [(15, [true, true, true, true, true, false])]) 87 15 [vR 82, vI x1, vI x2, vI x3, vI x4, vU] [] σ h
set_option maxRecDepth 100000 in
theorem vm_X12_isKnown {Ln : Int} {d : Nat} {Q : Option AV → AS → Prop} (σ : AS) (a1 a2 : Int) (h :
  (0 ≤ a1 ∧ a1 < 100) ∧ ((a2 < σ 93 a1 →
    am_b 0 ∧ Q (some (vI 0)) σ) ∧
  (¬ (a2 < σ 93 a1) →
    (0 ≤ a1 ∧ a1 < 100) ∧ ((σ 94 a1 = (-1) →
      am_b 1 ∧ Q (some (vI 1)) σ) ∧
    (¬ (σ 94 a1 = (-1)) →
      (0 ≤ a1 ∧ a1 < 100) ∧ ((σ 94 a1 ≤ a2 →
        am_b 0 ∧ Q (some (vI 0)) σ) ∧
      (¬ (σ 94 a1 ≤ a2) →
        am_b 1 ∧ Q (some (vI 1)) σ))))))) : am_M Ln (d + 1) 203 [vR 82, vI a1, vI a2] σ Q :=
  am_vc_E (d := d) (m := 203) (cut := []) 21 0 (am_entry 203 [vR 82, vI a1, vI a2]) [] σ h
set_option maxRecDepth 100000 in
theorem vm_X12_isAhead {Ln : Int} {d : Nat} {Q : Option AV → AS → Prop} (σ : AS) (a1 a2 : Int) (h :
  (0 ≤ a1 ∧ a1 < 100) ∧ ((0 ≤ a2 ∧ a2 < 100) ∧ ((σ 90 a1 = σ 90 a2 →
    (0 ≤ a1 ∧ a1 < 100) ∧ ((0 ≤ a2 ∧ a2 < 100) ∧ ((σ 91 a1 = σ 91 a2 →
      (a2 ≤ a1 →
        am_b 0 ∧ Q (some (vI 0)) σ) ∧
      (¬ (a2 ≤ a1) →
        am_b 1 ∧ Q (some (vI 1)) σ)) ∧
    (¬ (σ 91 a1 = σ 91 a2) →
      (0 ≤ a1 ∧ a1 < 100) ∧ ((0 ≤ a2 ∧ a2 < 100) ∧ ((σ 91 a2 ≤ σ 91 a1 →
        am_b 0 ∧ Q (some (vI 0)) σ) ∧
      (¬ (σ 91 a2 ≤ σ 91 a1) →
        am_b 1 ∧ Q (some (vI 1)) σ))))))) ∧
  (¬ (σ 90 a1 = σ 90 a2) →
    (0 ≤ a1 ∧ a1 < 100) ∧ ((0 ≤ a2 ∧ a2 < 100) ∧ ((σ 90 a2 ≤ σ 90 a1 →
      am_b 0 ∧ Q (some (vI 0)) σ) ∧
    (¬ (σ 90 a2 ≤ σ 90 a1) →
      am_b 1 ∧ Q (some (vI 1)) σ))))))) : am_M Ln (d + 1) 204 [vR 82, vI a1, vI a2] σ Q :=
  am_vc_E (d := d) (m := 204) (cut := []) 30 0 (am_entry 204 [vR 82, vI a1, vI a2]) [] σ h
set_option maxRecDepth 100000 in
theorem vm_X12_lists {Ln : Int} {d : Nat} {Q : Option AV → AS → Prop} (σ : AS) (a1 a2 : Int) (h :
  am_E Ln d 205 7 [vR 82, vI a1, vI a2, vI 0, vU] [] (am_up σ 82 63 0) Q) : am_M Ln (d + 1) 205 [vR 82, vI a1, vI a2] σ Q :=
  am_vc_E (d := d) (m := 205) (cut := [(7, [true, true, true, true, false]), (43, [true, true, true, true, true])]) 5 0 (am_entry 205 [vR 82, vI a1, vI a2]) [] σ h
set_option maxRecDepth 100000 in
theorem vl_X12_lists_7 {Ln : Int} {d : Nat} {Q : Option AV → AS → Prop} (σ : AS) (x1 x2 x3 : Int) (h :
  (σ 82 6 ≤ x3 →
    Q none σ) ∧
  (¬ (σ 82 6 ≤ x3) →
    ∃ T : Option AV → AS → Prop, am_M Ln d 203 [vR 82, vI x3, vI x2] σ T ∧ ∀ (r2 : Int) s1, T (some (vI r2)) s1 →
    (r2 = 0 →
      am_E Ln d 205 7 [vR 82, vI x1, vI x2, vI (w32 (x3 + 1)), vU] [] s1 Q) ∧
    (¬ (r2 = 0) →
      (0 ≤ x3 ∧ x3 < 100) ∧ ((s1 90 x3 ≤ x1 →
        am_E Ln d 205 43 [vR 82, vI x1, vI x2, vI x3, vI (s1 82 63)] [] s1 Q) ∧
      (¬ (s1 90 x3 ≤ x1) →
        am_E Ln d 205 7 [vR 82, vI x1, vI x2, vI (w32 (x3 + 1)), vU] [] s1 Q))))) : am_E Ln d 205 7 [vR 82, vI x1, vI x2, vI x3, vU] [] σ Q :=
  am_vc_E (d := d) (m := 205) (cut := [(7, [true, true, true, true, false]), (43, [true, true, true, true, true])]) 18 7 [vR 82, vI x1, vI x2, vI x3, vU] [] σ h
set_option maxRecDepth 100000 in
theorem vl_X12_lists_43 {Ln : Int} {d : Nat} {Q : Option AV → AS → Prop} (σ : AS) (x1 x2 x3 x4 : Int) (h :
  (x4 ≤ 0 →
    (0 ≤ x4 ∧ x4 < 100) ∧ (am_E Ln d 205 7 [vR 82, vI x1, vI x2, vI (w32 (x3 + 1)), vU] [] (am_up (am_up σ 126 x4 x3) 82 63 (w32 (σ 82 63 + 1))) Q)) ∧
  (¬ (x4 ≤ 0) →
    (0 ≤ w32 (x4 - 1) ∧ w32 (x4 - 1) < 100) ∧ (∃ T : Option AV → AS → Prop, am_M Ln d 204 [vR 82, vI x3, vI (σ 126 (w32 (x4 - 1)))] σ T ∧ ∀ (r2 : Int) s1, T (some (vI r2)) s1 →
    (r2 = 0 →
      (0 ≤ x4 ∧ x4 < 100) ∧ (am_E Ln d 205 7 [vR 82, vI x1, vI x2, vI (w32 (x3 + 1)), vU] [] (am_up (am_up s1 126 x4 x3) 82 63 (w32 (s1 82 63 + 1))) Q)) ∧
    (¬ (r2 = 0) →
      (0 ≤ w32 (x4 - 1) ∧ w32 (x4 - 1) < 100) ∧ ((0 ≤ x4 ∧ x4 < 100) ∧ (am_E Ln d 205 43 [vR 82, vI x1, vI x2, vI x3, vI (w32 (x4 + (-1)))] [] (am_up s1 126 x4 (s1 126 (w32 (x4 - 1)))) Q)))))) : am_E Ln d 205 43 [vR 82, vI x1, vI x2, vI x3, vI x4] [] σ Q :=
  am_vc_E (d := d) (m := 205) (cut := [(7, [true, true, true, true, false]), (43, [true, true, true, true, true])]) 25 43 [vR 82, vI x1, vI x2, vI x3, vI x4] [] σ h
set_option maxRecDepth 100000 in
theorem vm_X12_plays {Ln : Int} {d : Nat} {Q : Option AV → AS → Prop} (σ : AS) (a1 a2 : Int) (h :
  ∃ T : Option AV → AS → Prop, am_M Ln d 205 [vR 82, vI a1, vI a2] σ T ∧ ∀ s1, T none s1 →
  ∃ T : Option AV → AS → Prop, am_M Ln d 178 [vR 82] s1 T ∧ ∀ s2, T none s2 →
  am_E Ln d 206 12 [vR 82, vU, vI a2, vI 0, vU] [] s2 Q) : am_M Ln (d + 1) 206 [vR 82, vI a1, vI a2] σ Q :=
  am_vc_E (d := d) (m := 206) (cut := [(12, [true, false, true, true, false])]) 8 0 (am_entry 206 [vR 82, vI a1, vI a2]) [] σ h
set_option maxRecDepth 100000 in
theorem vl_X12_plays_12 {Ln : Int} {d : Nat} {Q : Option AV → AS → Prop} (σ : AS) (x2 x3 : Int) (h :
  (σ 82 63 ≤ x3 →
    Q none σ) ∧
  (¬ (σ 82 63 ≤ x3) →
    (0 ≤ x3 ∧ x3 < 100) ∧ (∃ T : Option AV → AS → Prop, am_M Ln d 202 [vR 82, vI (σ 126 x3), vI x2] σ T ∧ ∀ (r2 : Int) s1, T (some (vI r2)) s1 →
    am_E Ln d 206 12 [vR 82, vU, vI x2, vI (w32 (x3 + 1)), vU] [] s1 Q))) : am_E Ln d 206 12 [vR 82, vU, vI x2, vI x3, vU] [] σ Q :=
  am_vc_E (d := d) (m := 206) (cut := [(12, [true, false, true, true, false])]) 14 12 [vR 82, vU, vI x2, vI x3, vU] [] σ h
set_option maxRecDepth 100000 in
theorem vm_X12_isAsked {Ln : Int} {d : Nat} {Q : Option AV → AS → Prop} (σ : AS) (a1 a2 : Int) (h :
  ∃ T : Option AV → AS → Prop, am_M Ln d 139 [vI a1] σ T ∧ ∀ (r2 : Int) s1, T (some (vI r2)) s1 →
  (r2 = 0 →
    am_b 0 ∧ Q (some (vI 0)) s1) ∧
  (¬ (r2 = 0) →
    ∃ T : Option AV → AS → Prop, am_M Ln d 139 [vI a2] s1 T ∧ ∀ (r4 : Int) s3, T (some (vI r4)) s3 →
    (r4 = 0 →
      am_b 0 ∧ Q (some (vI 0)) s3) ∧
    (¬ (r4 = 0) →
      am_b 1 ∧ Q (some (vI 1)) s3))) : am_M Ln (d + 1) 207 [vR 82, vI a1, vI a2] σ Q :=
  am_vc_E (d := d) (m := 207) (cut := []) 9 0 (am_entry 207 [vR 82, vI a1, vI a2]) [] σ h
set_option maxRecDepth 100000 in
theorem vm_X12_left {Ln : Int} {d : Nat} {Q : Option AV → AS → Prop} (σ : AS) (a1 a2 a3 a4 : Int) (h :
  ∃ T : Option AV → AS → Prop, am_M Ln d 137 [vR 82, vI a1] σ T ∧ ∀ (r2 : Int) s1, T (some (vI r2)) s1 →
  (r2 = 0 →
    Q (some (vI (-1))) s1) ∧
  (¬ (r2 = 0) →
    (a2 = (-1) →
      ∃ T : Option AV → AS → Prop, am_M Ln d 207 [vR 82, vI a3, vI a4] s1 T ∧ ∀ (r4 : Int) s3, T (some (vI r4)) s3 →
      (r4 = 0 →
        Q (some (vI (-1))) s3) ∧
      (¬ (r4 = 0) →
        ∃ T : Option AV → AS → Prop, am_M Ln d 206 [vR 82, vI a3, vI a4] s3 T ∧ ∀ s5, T none s5 →
        (a2 = (-1) →
          ∃ T : Option AV → AS → Prop, am_M Ln d 180 [vR 82, vI a1] s5 T ∧ ∀ (r7 : Int) s6, T (some (vI r7)) s6 →
          Q (some (vI r7)) s6) ∧
        (¬ (a2 = (-1)) →
          ∃ T : Option AV → AS → Prop, am_M Ln d 181 [vR 82, vI a1, vI a2] s5 T ∧ ∀ (r9 : Int) s8, T (some (vI r9)) s8 →
          Q (some (vI r9)) s8))) ∧
    (¬ (a2 = (-1)) →
      ∃ T : Option AV → AS → Prop, am_M Ln d 136 [vR 82, vI a2] s1 T ∧ ∀ (r11 : Int) s10, T (some (vI r11)) s10 →
      (r11 = 0 →
        Q (some (vI (-1))) s10) ∧
      (¬ (r11 = 0) →
        ∃ T : Option AV → AS → Prop, am_M Ln d 207 [vR 82, vI a3, vI a4] s10 T ∧ ∀ (r13 : Int) s12, T (some (vI r13)) s12 →
        (r13 = 0 →
          Q (some (vI (-1))) s12) ∧
        (¬ (r13 = 0) →
          ∃ T : Option AV → AS → Prop, am_M Ln d 206 [vR 82, vI a3, vI a4] s12 T ∧ ∀ s14, T none s14 →
          (a2 = (-1) →
            ∃ T : Option AV → AS → Prop, am_M Ln d 180 [vR 82, vI a1] s14 T ∧ ∀ (r16 : Int) s15, T (some (vI r16)) s15 →
            Q (some (vI r16)) s15) ∧
          (¬ (a2 = (-1)) →
            ∃ T : Option AV → AS → Prop, am_M Ln d 181 [vR 82, vI a1, vI a2] s14 T ∧ ∀ (r18 : Int) s17, T (some (vI r18)) s17 →
            Q (some (vI r18)) s17)))))) : am_M Ln (d + 1) 208 [vR 82, vI a1, vI a2, vI a3, vI a4] σ Q :=
  am_vc_E (d := d) (m := 208) (cut := []) 28 0 (am_entry 208 [vR 82, vI a1, vI a2, vI a3, vI a4]) [] σ h
set_option maxRecDepth 100000 in
theorem vm_X12_share {Ln : Int} {d : Nat} {Q : Option AV → AS → Prop} (σ : AS) (a1 a2 a3 a4 : Int) (h :
  ∃ T : Option AV → AS → Prop, am_M Ln d 138 [vR 82, vI a1] σ T ∧ ∀ (r2 : Int) s1, T (some (vI r2)) s1 →
  (r2 = 0 →
    Q (some (vI (-1))) s1) ∧
  (¬ (r2 = 0) →
    (a2 = (-1) →
      ∃ T : Option AV → AS → Prop, am_M Ln d 207 [vR 82, vI a3, vI a4] s1 T ∧ ∀ (r4 : Int) s3, T (some (vI r4)) s3 →
      (r4 = 0 →
        Q (some (vI (-1))) s3) ∧
      (¬ (r4 = 0) →
        ∃ T : Option AV → AS → Prop, am_M Ln d 206 [vR 82, vI a3, vI a4] s3 T ∧ ∀ s5, T none s5 →
        am_E Ln d 209 46 [vR 82, vI a1, vI a2, vU, vU, vI 0, vI 0] [] s5 Q)) ∧
    (¬ (a2 = (-1)) →
      ∃ T : Option AV → AS → Prop, am_M Ln d 136 [vR 82, vI a2] s1 T ∧ ∀ (r7 : Int) s6, T (some (vI r7)) s6 →
      (r7 = 0 →
        Q (some (vI (-1))) s6) ∧
      (¬ (r7 = 0) →
        ∃ T : Option AV → AS → Prop, am_M Ln d 207 [vR 82, vI a3, vI a4] s6 T ∧ ∀ (r9 : Int) s8, T (some (vI r9)) s8 →
        (r9 = 0 →
          Q (some (vI (-1))) s8) ∧
        (¬ (r9 = 0) →
          ∃ T : Option AV → AS → Prop, am_M Ln d 206 [vR 82, vI a3, vI a4] s8 T ∧ ∀ s10, T none s10 →
          am_E Ln d 209 46 [vR 82, vI a1, vI a2, vU, vU, vI 0, vI 0] [] s10 Q))))) : am_M Ln (d + 1) 209 [vR 82, vI a1, vI a2, vI a3, vI a4] σ Q :=
  am_vc_E (d := d) (m := 209) (cut := [(46, [true, true, true, false, false, true, true])]) 24 0 (am_entry 209 [vR 82, vI a1, vI a2, vI a3, vI a4]) [] σ h
set_option maxRecDepth 100000 in
theorem vl_X12_share_46 {Ln : Int} {d : Nat} {Q : Option AV → AS → Prop} (σ : AS) (x1 x2 x5 x6 : Int) (h :
  (σ 82 3 ≤ x6 →
    Q (some (vI x5)) σ) ∧
  (¬ (σ 82 3 ≤ x6) →
    (x2 = (-1) →
      (0 ≤ w32 (w32 (10 * x1) + x6) ∧ w32 (w32 (10 * x1) + x6) < 100) ∧ (am_E Ln d 209 46 [vR 82, vI x1, vI x2, vU, vU, vI (w32 (x5 + (σ 116 (w32 (w32 (10 * x1) + x6))))), vI (w32 (x6 + 1))] [] σ Q)) ∧
    (¬ (x2 = (-1)) →
      (x2 = x6 →
        (0 ≤ w32 (w32 (10 * x1) + x6) ∧ w32 (w32 (10 * x1) + x6) < 100) ∧ (am_E Ln d 209 46 [vR 82, vI x1, vI x2, vU, vU, vI (w32 (x5 + (σ 116 (w32 (w32 (10 * x1) + x6))))), vI (w32 (x6 + 1))] [] σ Q)) ∧
      (¬ (x2 = x6) →
        am_E Ln d 209 46 [vR 82, vI x1, vI x2, vU, vU, vI (w32 (x5 + 0)), vI (w32 (x6 + 1))] [] σ Q)))) : am_E Ln d 209 46 [vR 82, vI x1, vI x2, vU, vU, vI x5, vI x6] [] σ Q :=
  am_vc_E (d := d) (m := 209) (cut := [(46, [true, true, true, false, false, true, true])]) 24 46 [vR 82, vI x1, vI x2, vU, vU, vI x5, vI x6] [] σ h
set_option maxRecDepth 100000 in
theorem vm_X12_lost {Ln : Int} {d : Nat} {Q : Option AV → AS → Prop} (σ : AS) (a1 a2 a3 a4 : Int) (h :
  ∃ T : Option AV → AS → Prop, am_M Ln d 137 [vR 82, vI a1] σ T ∧ ∀ (r2 : Int) s1, T (some (vI r2)) s1 →
  (r2 = 0 →
    Q (some (vI (-1))) s1) ∧
  (¬ (r2 = 0) →
    ∃ T : Option AV → AS → Prop, am_M Ln d 136 [vR 82, vI a2] s1 T ∧ ∀ (r4 : Int) s3, T (some (vI r4)) s3 →
    (r4 = 0 →
      Q (some (vI (-1))) s3) ∧
    (¬ (r4 = 0) →
      ∃ T : Option AV → AS → Prop, am_M Ln d 207 [vR 82, vI a3, vI a4] s3 T ∧ ∀ (r6 : Int) s5, T (some (vI r6)) s5 →
      (r6 = 0 →
        Q (some (vI (-1))) s5) ∧
      (¬ (r6 = 0) →
        ∃ T : Option AV → AS → Prop, am_M Ln d 206 [vR 82, vI a3, vI a4] s5 T ∧ ∀ s7, T none s7 →
        (0 ≤ w32 (w32 (10 * a1) + a2) ∧ w32 (w32 (10 * a1) + a2) < 100) ∧ (Q (some (vI (s7 117 (w32 (w32 (10 * a1) + a2))))) s7))))) : am_M Ln (d + 1) 210 [vR 82, vI a1, vI a2, vI a3, vI a4] σ Q :=
  am_vc_E (d := d) (m := 210) (cut := []) 26 0 (am_entry 210 [vR 82, vI a1, vI a2, vI a3, vI a4]) [] σ h
set_option maxRecDepth 100000 in
theorem vm_X12_part {Ln : Int} {d : Nat} {Q : Option AV → AS → Prop} (σ : AS) (a1 a2 a3 : Int) (h :
  ∃ T : Option AV → AS → Prop, am_M Ln d 137 [vR 82, vI a1] σ T ∧ ∀ (r2 : Int) s1, T (some (vI r2)) s1 →
  (r2 = 0 →
    Q (some (vI (-1))) s1) ∧
  (¬ (r2 = 0) →
    ∃ T : Option AV → AS → Prop, am_M Ln d 206 [vR 82, vI (s1 82 2), vI (s1 82 2)] s1 T ∧ ∀ s3, T none s3 →
    (0 ≤ a1 ∧ a1 < 10) ∧ (∃ T : Option AV → AS → Prop, am_M Ln d 134 [vL a2, vL 0, vL (w32 (s3 113 a1 - 1))] s3 T ∧ ∀ (r5 : Int) s4, T (some (vI r5)) s4 →
    (r5 = 0 →
      Q (some (vI (-1))) s4) ∧
    (¬ (r5 = 0) →
      (a3 = 0 →
        (0 ≤ w32 (w32 (1400 * a1) + a2) ∧ w32 (w32 (1400 * a1) + a2) < 14000) ∧ (Q (some (vI (s4 114 (w32 (w32 (1400 * a1) + a2))))) s4)) ∧
      (¬ (a3 = 0) →
        (a3 = 1 →
          (0 ≤ w32 (w32 (1400 * a1) + a2) ∧ w32 (w32 (1400 * a1) + a2) < 14000) ∧ (Q (some (vI (s4 115 (w32 (w32 (1400 * a1) + a2))))) s4)) ∧
        (¬ (a3 = 1) →
          Q (some (vI (-1))) s4)))))) : am_M Ln (d + 1) 211 [vR 82, vI a1, vI a2, vI a3] σ Q :=
  am_vc_E (d := d) (m := 211) (cut := []) 37 0 (am_entry 211 [vR 82, vI a1, vI a2, vI a3]) [] σ h
set_option maxRecDepth 100000 in
theorem vm_X12_playsTo {Ln : Int} {d : Nat} {Q : Option AV → AS → Prop} (σ : AS) (a1 a2 : Int) (h :
  ∃ T : Option AV → AS → Prop, am_M Ln d 205 [vR 82, vI 4000, vI a2] σ T ∧ ∀ s1, T none s1 →
  ∃ T : Option AV → AS → Prop, am_M Ln d 178 [vR 82] s1 T ∧ ∀ s2, T none s2 →
  am_E Ln d 212 14 [vR 82, vI a1, vI a2, vI 0, vU] [] s2 Q) : am_M Ln (d + 1) 212 [vR 82, vI a1, vI a2] σ Q :=
  am_vc_E (d := d) (m := 212) (cut := [(14, [true, true, true, true, false])]) 8 0 (am_entry 212 [vR 82, vI a1, vI a2]) [] σ h
set_option maxRecDepth 100000 in
theorem vl_X12_playsTo_14 {Ln : Int} {d : Nat} {Q : Option AV → AS → Prop} (σ : AS) (x1 x2 x3 : Int) (h :
  (σ 82 63 ≤ x3 →
    am_b 0 ∧ Q (some (vI 0)) σ) ∧
  (¬ (σ 82 63 ≤ x3) →
    (0 ≤ x3 ∧ x3 < 100) ∧ ((σ 126 x3 = x1 →
      am_b 1 ∧ Q (some (vI 1)) σ) ∧
    (¬ (σ 126 x3 = x1) →
      (0 ≤ x3 ∧ x3 < 100) ∧ (∃ T : Option AV → AS → Prop, am_M Ln d 202 [vR 82, vI (σ 126 x3), vI x2] σ T ∧ ∀ (r2 : Int) s1, T (some (vI r2)) s1 →
      am_E Ln d 212 14 [vR 82, vI x1, vI x2, vI (w32 (x3 + 1)), vU] [] s1 Q))))) : am_E Ln d 212 14 [vR 82, vI x1, vI x2, vI x3, vU] [] σ Q :=
  am_vc_E (d := d) (m := 212) (cut := [(14, [true, true, true, true, false])]) 20 14 [vR 82, vI x1, vI x2, vI x3, vU] [] σ h
set_option maxRecDepth 100000 in
theorem vm_X12_takesAny {Ln : Int} {d : Nat} {Q : Option AV → AS → Prop} (σ : AS) (a1 : Int) (h :
  (0 ≤ a1 ∧ a1 < 100) ∧ ((σ 86 a1 = 1 →
    am_b 1 ∧ Q (some (vI 1)) σ) ∧
  (¬ (σ 86 a1 = 1) →
    (0 ≤ a1 ∧ a1 < 100) ∧ ((σ 86 a1 = 2 →
      am_b 1 ∧ Q (some (vI 1)) σ) ∧
    (¬ (σ 86 a1 = 2) →
      (0 ≤ a1 ∧ a1 < 100) ∧ ((σ 86 a1 = 3 →
        am_b 1 ∧ Q (some (vI 1)) σ) ∧
      (¬ (σ 86 a1 = 3) →
        am_b 0 ∧ Q (some (vI 0)) σ))))))) : am_M Ln (d + 1) 213 [vR 82, vI a1] σ Q :=
  am_vc_E (d := d) (m := 213) (cut := []) 21 0 (am_entry 213 [vR 82, vI a1]) [] σ h
set_option maxRecDepth 100000 in
theorem vm_X12_took {Ln : Int} {d : Nat} {Q : Option AV → AS → Prop} (σ : AS) (a1 a2 a3 : Int) (h :
  ∃ T : Option AV → AS → Prop, am_M Ln d 148 [vR 82, vI a1] σ T ∧ ∀ (r2 : Int) s1, T (some (vI r2)) s1 →
  (r2 = 0 →
    Q (some (vI (-1))) s1) ∧
  (¬ (r2 = 0) →
    ∃ T : Option AV → AS → Prop, am_M Ln d 136 [vR 82, vI a2] s1 T ∧ ∀ (r4 : Int) s3, T (some (vI r4)) s3 →
    (r4 = 0 →
      Q (some (vI (-1))) s3) ∧
    (¬ (r4 = 0) →
      ∃ T : Option AV → AS → Prop, am_M Ln d 139 [vI a3] s3 T ∧ ∀ (r6 : Int) s5, T (some (vI r6)) s5 →
      (r6 = 0 →
        Q (some (vI (-1))) s5) ∧
      (¬ (r6 = 0) →
        ∃ T : Option AV → AS → Prop, am_M Ln d 212 [vR 82, vI a1, vI a3] s5 T ∧ ∀ (r8 : Int) s7, T (some (vI r8)) s7 →
        (r8 = 0 →
          Q (some (vI (-3))) s7) ∧
        (¬ (r8 = 0) →
          ∃ T : Option AV → AS → Prop, am_M Ln d 202 [vR 82, vI a1, vI a3] s7 T ∧ ∀ (r10 : Int) s9, T (some (vI r10)) s9 →
          (r10 = 0 →
            Q (some (vI (-2))) s9) ∧
          (¬ (r10 = 0) →
            (0 ≤ a2 ∧ a2 < 10) ∧ (am_E Ln d 214 60 [vR 82, vI a1, vI a2, vU, vI (s9 125 a2), vI 0] [] s9 Q))))))) : am_M Ln (d + 1) 214 [vR 82, vI a1, vI a2, vI a3] σ Q :=
  am_vc_E (d := d) (m := 214) (cut := [(60, [true, true, true, false, true, true])]) 28 0 (am_entry 214 [vR 82, vI a1, vI a2, vI a3]) [] σ h
set_option maxRecDepth 100000 in
theorem vl_X12_took_60 {Ln : Int} {d : Nat} {Q : Option AV → AS → Prop} (σ : AS) (x1 x2 x4 x5 : Int) (h :
  (σ 82 54 ≤ x5 →
    Q (some (vI x4)) σ) ∧
  (¬ (σ 82 54 ≤ x5) →
    ∃ T : Option AV → AS → Prop, am_M Ln d 213 [vR 82, vI x1] σ T ∧ ∀ (r2 : Int) s1, T (some (vI r2)) s1 →
    (r2 = 0 →
      am_E Ln d 214 60 [vR 82, vI x1, vI x2, vU, vI (w32 (x4 + 0)), vI (w32 (x5 + 1))] [] s1 Q) ∧
    (¬ (r2 = 0) →
      (0 ≤ x5 ∧ x5 < 1500) ∧ ((s1 118 x5 = x2 →
        (0 ≤ x5 ∧ x5 < 1500) ∧ (am_E Ln d 214 60 [vR 82, vI x1, vI x2, vU, vI (w32 (x4 + (s1 119 x5))), vI (w32 (x5 + 1))] [] s1 Q)) ∧
      (¬ (s1 118 x5 = x2) →
        am_E Ln d 214 60 [vR 82, vI x1, vI x2, vU, vI (w32 (x4 + 0)), vI (w32 (x5 + 1))] [] s1 Q))))) : am_E Ln d 214 60 [vR 82, vI x1, vI x2, vU, vI x4, vI x5] [] σ Q :=
  am_vc_E (d := d) (m := 214) (cut := [(60, [true, true, true, false, true, true])]) 24 60 [vR 82, vI x1, vI x2, vU, vI x4, vI x5] [] σ h
set_option maxRecDepth 100000 in
theorem vm_X12_way {Ln : Int} {d : Nat} {Q : Option AV → AS → Prop} (σ : AS) (a1 a2 : Int) (h :
  ∃ T : Option AV → AS → Prop, am_M Ln d 148 [vR 82, vI a1] σ T ∧ ∀ (r2 : Int) s1, T (some (vI r2)) s1 →
  (r2 = 0 →
    Q (some (vI (-1))) s1) ∧
  (¬ (r2 = 0) →
    ∃ T : Option AV → AS → Prop, am_M Ln d 139 [vI a2] s1 T ∧ ∀ (r4 : Int) s3, T (some (vI r4)) s3 →
    (r4 = 0 →
      Q (some (vI (-1))) s3) ∧
    (¬ (r4 = 0) →
      ∃ T : Option AV → AS → Prop, am_M Ln d 213 [vR 82, vI a1] s3 T ∧ ∀ (r6 : Int) s5, T (some (vI r6)) s5 →
      (r6 = 0 →
        Q (some (vI (-3))) s5) ∧
      (¬ (r6 = 0) →
        ∃ T : Option AV → AS → Prop, am_M Ln d 212 [vR 82, vI a1, vI a2] s5 T ∧ ∀ (r8 : Int) s7, T (some (vI r8)) s7 →
        (r8 = 0 →
          Q (some (vI (-3))) s7) ∧
        (¬ (r8 = 0) →
          ∃ T : Option AV → AS → Prop, am_M Ln d 195 [vR 82, vI a1, vI a2] s7 T ∧ ∀ (r10 : Int) s9, T (some (vI r10)) s9 →
          Q (some (vI r10)) s9))))) : am_M Ln (d + 1) 215 [vR 82, vI a1, vI a2] σ Q :=
  am_vc_E (d := d) (m := 215) (cut := []) 22 0 (am_entry 215 [vR 82, vI a1, vI a2]) [] σ h
set_option maxRecDepth 100000 in
theorem vm_X12_fails {Ln : Int} {d : Nat} {Q : Option AV → AS → Prop} (σ : AS) (a1 : Int) (h :
  ∃ T : Option AV → AS → Prop, am_M Ln d 139 [vI a1] σ T ∧ ∀ (r2 : Int) s1, T (some (vI r2)) s1 →
  (r2 = 0 →
    Q (some (vI (-1))) s1) ∧
  (¬ (r2 = 0) →
    ∃ T : Option AV → AS → Prop, am_M Ln d 205 [vR 82, vI 4000, vI a1] s1 T ∧ ∀ s3, T none s3 →
    ∃ T : Option AV → AS → Prop, am_M Ln d 178 [vR 82] s3 T ∧ ∀ s4, T none s4 →
    am_E Ln d 216 25 [vR 82, vI a1, vI 0, vI 0] [] s4 Q)) : am_M Ln (d + 1) 216 [vR 82, vI a1] σ Q :=
  am_vc_E (d := d) (m := 216) (cut := [(25, [true, true, true, true])]) 13 0 (am_entry 216 [vR 82, vI a1]) [] σ h
set_option maxRecDepth 100000 in
theorem vl_X12_fails_25 {Ln : Int} {d : Nat} {Q : Option AV → AS → Prop} (σ : AS) (x1 x2 x3 : Int) (h :
  (σ 82 63 ≤ x3 →
    Q (some (vI x2)) σ) ∧
  (¬ (σ 82 63 ≤ x3) →
    (0 ≤ x3 ∧ x3 < 100) ∧ (∃ T : Option AV → AS → Prop, am_M Ln d 202 [vR 82, vI (σ 126 x3), vI x1] σ T ∧ ∀ (r2 : Int) s1, T (some (vI r2)) s1 →
    (r2 = 0 →
      am_E Ln d 216 25 [vR 82, vI x1, vI (w32 (x2 + 1)), vI (w32 (x3 + 1))] [] s1 Q) ∧
    (¬ (r2 = 0) →
      am_E Ln d 216 25 [vR 82, vI x1, vI (w32 (x2 + 0)), vI (w32 (x3 + 1))] [] s1 Q)))) : am_E Ln d 216 25 [vR 82, vI x1, vI x2, vI x3] [] σ Q :=
  am_vc_E (d := d) (m := 216) (cut := [(25, [true, true, true, true])]) 19 25 [vR 82, vI x1, vI x2, vI x3] [] σ h
set_option maxRecDepth 100000 in
theorem vm_X12_mayBe {Ln : Int} {d : Nat} {Q : Option AV → AS → Prop} (σ : AS) (a1 : Int) (h :
  am_E Ln d 217 2 [vR 82, vI a1, vI 0, vU] [] σ Q) : am_M Ln (d + 1) 217 [vR 82, vI a1] σ Q :=
  am_vc_E (d := d) (m := 217) (cut := [(2, [true, true, true, false]), (11, [true, true, true, true])]) 2 0 (am_entry 217 [vR 82, vI a1]) [] σ h
set_option maxRecDepth 100000 in
theorem vl_X12_mayBe_2 {Ln : Int} {d : Nat} {Q : Option AV → AS → Prop} (σ : AS) (x1 x2 : Int) (h :
  (x1 ≤ x2 →
    am_b 1 ∧ Q (some (vI 1)) σ) ∧
  (¬ (x1 ≤ x2) →
    am_E Ln d 217 11 [vR 82, vI x1, vI x2, vI (w32 (x2 + 1))] [] σ Q)) : am_E Ln d 217 2 [vR 82, vI x1, vI x2, vU] [] σ Q :=
  am_vc_E (d := d) (m := 217) (cut := [(2, [true, true, true, false]), (11, [true, true, true, true])]) 7 2 [vR 82, vI x1, vI x2, vU] [] σ h
set_option maxRecDepth 100000 in
theorem vl_X12_mayBe_11 {Ln : Int} {d : Nat} {Q : Option AV → AS → Prop} (σ : AS) (x1 x2 x3 : Int) (h :
  (x1 ≤ x3 →
    am_E Ln d 217 2 [vR 82, vI x1, vI (w32 (x2 + 1)), vU] [] σ Q) ∧
  (¬ (x1 ≤ x3) →
    (0 ≤ x2 ∧ x2 < 6) ∧ ((0 ≤ x3 ∧ x3 < 6) ∧ ((σ 128 x2 = σ 128 x3 →
      am_b 0 ∧ Q (some (vI 0)) σ) ∧
    (¬ (σ 128 x2 = σ 128 x3) →
      (0 ≤ x3 ∧ x3 < 6) ∧ ((0 ≤ σ 128 x3 ∧ σ 128 x3 < 6) ∧ ((0 ≤ σ 127 (σ 128 x3) ∧ σ 127 (σ 128 x3) < 100) ∧ ((0 ≤ x2 ∧ x2 < 6) ∧ ((0 ≤ σ 128 x2 ∧ σ 128 x2 < 6) ∧ ((0 ≤ σ 127 (σ 128 x2) ∧ σ 127 (σ 128 x2) < 100) ∧ ((σ 91 (σ 127 (σ 128 x2)) ≤ σ 92 (σ 127 (σ 128 x3)) →
        am_E Ln d 217 11 [vR 82, vI x1, vI x2, vI (w32 (x3 + 1))] [] σ Q) ∧
      (¬ (σ 91 (σ 127 (σ 128 x2)) ≤ σ 92 (σ 127 (σ 128 x3))) →
        am_b 0 ∧ Q (some (vI 0)) σ)))))))))))) : am_E Ln d 217 11 [vR 82, vI x1, vI x2, vI x3] [] σ Q :=
  am_vc_E (d := d) (m := 217) (cut := [(2, [true, true, true, false]), (11, [true, true, true, true])]) 35 11 [vR 82, vI x1, vI x2, vI x3] [] σ h
set_option maxRecDepth 100000 in
theorem vm_X12_playsOrder {Ln : Int} {d : Nat} {Q : Option AV → AS → Prop} (σ : AS) (a1 a2 a3 a4 : Int) (h :
  ∃ T : Option AV → AS → Prop, am_M Ln d 178 [vR 82] σ T ∧ ∀ s1, T none s1 →
  am_E Ln d 218 7 [vR 82, vI a1, vI a2, vI a3, vI a4, vI 0, vU, vU] [] s1 Q) : am_M Ln (d + 1) 218 [vR 82, vI a1, vI a2, vI a3, vI a4] σ Q :=
  am_vc_E (d := d) (m := 218) (cut := [(7, [true, true, true, true, true, true, false, false])]) 4 0 (am_entry 218 [vR 82, vI a1, vI a2, vI a3, vI a4]) [] σ h
set_option maxRecDepth 100000 in
theorem vl_X12_playsOrder_7 {Ln : Int} {d : Nat} {Q : Option AV → AS → Prop} (σ : AS) (x1 x2 x3 x4 x5 : Int) (h :
  (σ 82 63 ≤ x5 →
    ∃ T : Option AV → AS → Prop, am_M Ln d 181 [vR 82, vI x1, vI x2] σ T ∧ ∀ (r2 : Int) s1, T (some (vI r2)) s1 →
    (s1 82 65 = 0 →
      (s1 82 65 = 0 →
        Q none (am_up (am_up (am_up s1 82 66 r2) 82 67 r2) 82 65 (w32 (s1 82 65 + 1)))) ∧
      (¬ (s1 82 65 = 0) →
        (r2 ≤ s1 82 67 →
          Q none (am_up (am_up (am_up s1 82 66 r2) 82 67 (s1 82 67)) 82 65 (w32 (s1 82 65 + 1)))) ∧
        (¬ (r2 ≤ s1 82 67) →
          Q none (am_up (am_up (am_up s1 82 66 r2) 82 67 r2) 82 65 (w32 (s1 82 65 + 1)))))) ∧
    (¬ (s1 82 65 = 0) →
      (s1 82 66 ≤ r2 →
        (s1 82 65 = 0 →
          Q none (am_up (am_up (am_up s1 82 66 (s1 82 66)) 82 67 r2) 82 65 (w32 (s1 82 65 + 1)))) ∧
        (¬ (s1 82 65 = 0) →
          (r2 ≤ s1 82 67 →
            Q none (am_up (am_up (am_up s1 82 66 (s1 82 66)) 82 67 (s1 82 67)) 82 65 (w32 (s1 82 65 + 1)))) ∧
          (¬ (r2 ≤ s1 82 67) →
            Q none (am_up (am_up (am_up s1 82 66 (s1 82 66)) 82 67 r2) 82 65 (w32 (s1 82 65 + 1)))))) ∧
      (¬ (s1 82 66 ≤ r2) →
        (s1 82 65 = 0 →
          Q none (am_up (am_up (am_up s1 82 66 r2) 82 67 r2) 82 65 (w32 (s1 82 65 + 1)))) ∧
        (¬ (s1 82 65 = 0) →
          (r2 ≤ s1 82 67 →
            Q none (am_up (am_up (am_up s1 82 66 r2) 82 67 (s1 82 67)) 82 65 (w32 (s1 82 65 + 1)))) ∧
          (¬ (r2 ≤ s1 82 67) →
            Q none (am_up (am_up (am_up s1 82 66 r2) 82 67 r2) 82 65 (w32 (s1 82 65 + 1)))))))) ∧
  (¬ (σ 82 63 ≤ x5) →
    ∃ T : Option AV → AS → Prop, am_M Ln d 134 [vL x5, vL x3, vL (w32 (w32 (x3 + x4) - 1))] σ T ∧ ∀ (r4 : Int) s3, T (some (vI r4)) s3 →
    (r4 = 0 →
      (0 ≤ x5 ∧ x5 < 100) ∧ (∃ T : Option AV → AS → Prop, am_M Ln d 202 [vR 82, vI (s3 126 x5), vI (s3 82 2)] s3 T ∧ ∀ (r6 : Int) s5, T (some (vI r6)) s5 →
      am_E Ln d 218 7 [vR 82, vI x1, vI x2, vI x3, vI x4, vI (w32 (x5 + 1)), vU, vU] [] s5 Q)) ∧
    (¬ (r4 = 0) →
      (0 ≤ w32 (x5 - x3) ∧ w32 (x5 - x3) < 6) ∧ ((0 ≤ s3 128 (w32 (x5 - x3)) ∧ s3 128 (w32 (x5 - x3)) < 6) ∧ (∃ T : Option AV → AS → Prop, am_M Ln d 202 [vR 82, vI (s3 127 (s3 128 (w32 (x5 - x3)))), vI (s3 82 2)] s3 T ∧ ∀ (r8 : Int) s7, T (some (vI r8)) s7 →
      am_E Ln d 218 7 [vR 82, vI x1, vI x2, vI x3, vI x4, vI (w32 (x5 + 1)), vU, vU] [] s7 Q))))) : am_E Ln d 218 7 [vR 82, vI x1, vI x2, vI x3, vI x4, vI x5, vU, vU] [] σ Q :=
  am_vc_E (d := d) (m := 218) (cut := [(7, [true, true, true, true, true, true, false, false])]) 38 7 [vR 82, vI x1, vI x2, vI x3, vI x4, vI x5, vU, vU] [] σ h
set_option maxRecDepth 100000 in
theorem vm_X12_turns {Ln : Int} {d : Nat} {Q : Option AV → AS → Prop} (σ : AS) (a1 : Int) (h :
  am_E Ln d 219 4 [vR 82, vI a1, vI (w32 (a1 - 1))] [] σ Q) : am_M Ln (d + 1) 219 [vR 82, vI a1] σ Q :=
  am_vc_E (d := d) (m := 219) (cut := [(4, [true, true, true])]) 4 0 (am_entry 219 [vR 82, vI a1]) [] σ h
set_option maxRecDepth 100000 in
theorem vl_X12_turns_4 {Ln : Int} {d : Nat} {Q : Option AV → AS → Prop} (σ : AS) (x1 x2 : Int) (h :
  (x2 < 0 →
    (0 ≤ x2 →
      (0 ≤ x2 ∧ x2 < 6) ∧ ((0 ≤ x2 ∧ x2 < 6) ∧ (am_b 1 ∧ Q (some (vI 1)) (am_up σ 128 x2 (w32 (σ 128 x2 + 1)))))) ∧
    (¬ (0 ≤ x2) →
      am_b 0 ∧ Q (some (vI 0)) σ)) ∧
  (¬ (x2 < 0) →
    (0 ≤ x2 ∧ x2 < 6) ∧ ((σ 128 x2 = w32 (x1 - 1) →
      (0 ≤ x2 ∧ x2 < 6) ∧ (am_E Ln d 219 4 [vR 82, vI x1, vI (w32 (x2 + (-1)))] [] (am_up σ 128 x2 0) Q)) ∧
    (¬ (σ 128 x2 = w32 (x1 - 1)) →
      (0 ≤ x2 →
        (0 ≤ x2 ∧ x2 < 6) ∧ ((0 ≤ x2 ∧ x2 < 6) ∧ (am_b 1 ∧ Q (some (vI 1)) (am_up σ 128 x2 (w32 (σ 128 x2 + 1)))))) ∧
      (¬ (0 ≤ x2) →
        am_b 0 ∧ Q (some (vI 0)) σ))))) : am_E Ln d 219 4 [vR 82, vI x1, vI x2] [] σ Q :=
  am_vc_E (d := d) (m := 219) (cut := [(4, [true, true, true])]) 22 4 [vR 82, vI x1, vI x2] [] σ h
set_option maxRecDepth 100000 in
theorem vm_X12_sure {Ln : Int} {d : Nat} {Q : Option AV → AS → Prop} (σ : AS) (a1 a2 a3 a4 : Int) (h :
  ∃ T : Option AV → AS → Prop, am_M Ln d 137 [vR 82, vI a1] σ T ∧ ∀ (r2 : Int) s1, T (some (vI r2)) s1 →
  (r2 = 0 →
    Q (some (vI (-1))) s1) ∧
  (¬ (r2 = 0) →
    ∃ T : Option AV → AS → Prop, am_M Ln d 136 [vR 82, vI a2] s1 T ∧ ∀ (r4 : Int) s3, T (some (vI r4)) s3 →
    (r4 = 0 →
      Q (some (vI (-1))) s3) ∧
    (¬ (r4 = 0) →
      ∃ T : Option AV → AS → Prop, am_M Ln d 139 [vI a3] s3 T ∧ ∀ (r6 : Int) s5, T (some (vI r6)) s5 →
      (r6 = 0 →
        Q (some (vI (-1))) s5) ∧
      (¬ (r6 = 0) →
        ∃ T : Option AV → AS → Prop, am_M Ln d 134 [vL a4, vL 0, vL 2] s5 T ∧ ∀ (r8 : Int) s7, T (some (vI r8)) s7 →
        (r8 = 0 →
          Q (some (vI (-1))) s7) ∧
        (¬ (r8 = 0) →
          ∃ T : Option AV → AS → Prop, am_M Ln d 205 [vR 82, vI 4000, vI (s7 82 2)] s7 T ∧ ∀ s9, T none s9 →
          am_E Ln d 220 52 [vR 82, vI a1, vI a2, vI a3, vI a4, vI 0, vU, vU] [] s9 Q))))) : am_M Ln (d + 1) 220 [vR 82, vI a1, vI a2, vI a3, vI a4] σ Q :=
  am_vc_E (d := d) (m := 220) (cut := [(52, [true, true, true, true, true, true, false, false]), (86, [true, true, true, true, true, true, true, false]), (135, [true, true, true, false, true, true, true, true]), (181, [true, true, true, false, true, true, true, true])]) 24 0 (am_entry 220 [vR 82, vI a1, vI a2, vI a3, vI a4]) [] σ h
set_option maxRecDepth 100000 in
theorem vl_X12_sure_52 {Ln : Int} {d : Nat} {Q : Option AV → AS → Prop} (σ : AS) (x1 x2 x3 x4 x5 : Int) (h :
  (σ 82 63 ≤ x5 →
    am_E Ln d 220 86 [vR 82, vI x1, vI x2, vI x3, vI x4, vI x5, vI 0, vU] [] σ Q) ∧
  (¬ (σ 82 63 ≤ x5) →
    (0 ≤ x5 ∧ x5 < 100) ∧ ((0 ≤ σ 126 x5 ∧ σ 126 x5 < 100) ∧ ((x3 ≤ σ 90 (σ 126 x5) →
      am_E Ln d 220 86 [vR 82, vI x1, vI x2, vI x3, vI x4, vI x5, vI 0, vU] [] σ Q) ∧
    (¬ (x3 ≤ σ 90 (σ 126 x5)) →
      am_E Ln d 220 52 [vR 82, vI x1, vI x2, vI x3, vI x4, vI (w32 (x5 + 1)), vU, vU] [] σ Q))))) : am_E Ln d 220 52 [vR 82, vI x1, vI x2, vI x3, vI x4, vI x5, vU, vU] [] σ Q :=
  am_vc_E (d := d) (m := 220) (cut := [(52, [true, true, true, true, true, true, false, false]), (86, [true, true, true, true, true, true, true, false]), (135, [true, true, true, false, true, true, true, true]), (181, [true, true, true, false, true, true, true, true])]) 15 52 [vR 82, vI x1, vI x2, vI x3, vI x4, vI x5, vU, vU] [] σ h
set_option maxRecDepth 100000 in
theorem vl_X12_sure_86 {Ln : Int} {d : Nat} {Q : Option AV → AS → Prop} (σ : AS) (x1 x2 x3 x4 x5 x6 : Int) (h :
  (σ 82 63 ≤ w32 (x5 + x6) →
    (x6 ≤ 6 →
      am_E Ln d 220 135 [vR 82, vI x1, vI x2, vU, vI x4, vI x5, vI x6, vI 0] [] σ Q) ∧
    (¬ (x6 ≤ 6) →
      Q (some (vI (-1))) σ)) ∧
  (¬ (σ 82 63 ≤ w32 (x5 + x6)) →
    (0 ≤ w32 (x5 + x6) ∧ w32 (x5 + x6) < 100) ∧ ((0 ≤ σ 126 (w32 (x5 + x6)) ∧ σ 126 (w32 (x5 + x6)) < 100) ∧ ((σ 90 (σ 126 (w32 (x5 + x6))) = x3 →
      am_E Ln d 220 86 [vR 82, vI x1, vI x2, vI x3, vI x4, vI x5, vI (w32 (x6 + 1)), vU] [] σ Q) ∧
    (¬ (σ 90 (σ 126 (w32 (x5 + x6))) = x3) →
      (x6 ≤ 6 →
        am_E Ln d 220 135 [vR 82, vI x1, vI x2, vU, vI x4, vI x5, vI x6, vI 0] [] σ Q) ∧
      (¬ (x6 ≤ 6) →
        Q (some (vI (-1))) σ)))))) : am_E Ln d 220 86 [vR 82, vI x1, vI x2, vI x3, vI x4, vI x5, vI x6, vU] [] σ Q :=
  am_vc_E (d := d) (m := 220) (cut := [(52, [true, true, true, true, true, true, false, false]), (86, [true, true, true, true, true, true, true, false]), (135, [true, true, true, false, true, true, true, true]), (181, [true, true, true, false, true, true, true, true])]) 22 86 [vR 82, vI x1, vI x2, vI x3, vI x4, vI x5, vI x6, vU] [] σ h
set_option maxRecDepth 100000 in
theorem vl_X12_sure_135 {Ln : Int} {d : Nat} {Q : Option AV → AS → Prop} (σ : AS) (x1 x2 x4 x5 x6 x7 : Int) (h :
  (x6 ≤ x7 →
    am_E Ln d 220 181 [vR 82, vI x1, vI x2, vU, vI x4, vI x5, vI x6, vI 1] [] (am_up σ 82 65 0) Q) ∧
  (¬ (x6 ≤ x7) →
    (0 ≤ w32 (x5 + x7) ∧ w32 (x5 + x7) < 100) ∧ ((0 ≤ x7 ∧ x7 < 6) ∧ ((0 ≤ x7 ∧ x7 < 6) ∧ (am_E Ln d 220 135 [vR 82, vI x1, vI x2, vU, vI x4, vI x5, vI x6, vI (w32 (x7 + 1))] [] (am_up (am_up σ 127 x7 (σ 126 (w32 (x5 + x7)))) 128 x7 0) Q))))) : am_E Ln d 220 135 [vR 82, vI x1, vI x2, vU, vI x4, vI x5, vI x6, vI x7] [] σ Q :=
  am_vc_E (d := d) (m := 220) (cut := [(52, [true, true, true, true, true, true, false, false]), (86, [true, true, true, true, true, true, true, false]), (135, [true, true, true, false, true, true, true, true]), (181, [true, true, true, false, true, true, true, true])]) 20 135 [vR 82, vI x1, vI x2, vU, vI x4, vI x5, vI x6, vI x7] [] σ h
set_option maxRecDepth 100000 in
theorem vl_X12_sure_181 {Ln : Int} {d : Nat} {Q : Option AV → AS → Prop} (σ : AS) (x1 x2 x4 x5 x6 x7 : Int) (h :
  (x7 = 0 →
    (x4 = 0 →
      Q (some (vI (σ 82 66))) σ) ∧
    (¬ (x4 = 0) →
      (x4 = 1 →
        Q (some (vI (σ 82 67))) σ) ∧
      (¬ (x4 = 1) →
        Q (some (vI (σ 82 65))) σ))) ∧
  (¬ (x7 = 0) →
    ∃ T : Option AV → AS → Prop, am_M Ln d 217 [vR 82, vI x6] σ T ∧ ∀ (r2 : Int) s1, T (some (vI r2)) s1 →
    (r2 = 0 →
      ∃ T : Option AV → AS → Prop, am_M Ln d 219 [vR 82, vI x6] s1 T ∧ ∀ (r4 : Int) s3, T (some (vI r4)) s3 →
      am_E Ln d 220 181 [vR 82, vI x1, vI x2, vU, vI x4, vI x5, vI x6, vI r4] [] s3 Q) ∧
    (¬ (r2 = 0) →
      ∃ T : Option AV → AS → Prop, am_M Ln d 218 [vR 82, vI x1, vI x2, vI x5, vI x6] s1 T ∧ ∀ s5, T none s5 →
      ∃ T : Option AV → AS → Prop, am_M Ln d 219 [vR 82, vI x6] s5 T ∧ ∀ (r7 : Int) s6, T (some (vI r7)) s6 →
      am_E Ln d 220 181 [vR 82, vI x1, vI x2, vU, vI x4, vI x5, vI x6, vI r7] [] s6 Q))) : am_E Ln d 220 181 [vR 82, vI x1, vI x2, vU, vI x4, vI x5, vI x6, vI x7] [] σ Q :=
  am_vc_E (d := d) (m := 220) (cut := [(52, [true, true, true, true, true, true, false, false]), (86, [true, true, true, true, true, true, true, false]), (135, [true, true, true, false, true, true, true, true]), (181, [true, true, true, false, true, true, true, true])]) 17 181 [vR 82, vI x1, vI x2, vU, vI x4, vI x5, vI x6, vI x7] [] σ h
set_option maxRecDepth 100000 in
theorem vm_X12_isWay {Ln : Int} {d : Nat} {Q : Option AV → AS → Prop} (σ : AS) (a1 : Int) (h :
  ∃ T : Option AV → AS → Prop, am_M Ln d 134 [vL a1, vL 0, vL 4] σ T ∧ ∀ (r2 : Int) s1, T (some (vI r2)) s1 →
  am_b r2 ∧ Q (some (vI r2)) s1) : am_M Ln (d + 1) 221 [vI a1] σ Q :=
  am_vc_E (d := d) (m := 221) (cut := []) 6 0 (am_entry 221 [vI a1]) [] σ h
set_option maxRecDepth 100000 in
theorem vm_X12_beside {Ln : Int} {d : Nat} {Q : Option AV → AS → Prop} (σ : AS) (a1 a2 a3 a4 : Int) (h :
  ∃ T : Option AV → AS → Prop, am_M Ln d 137 [vR 82, vI a1] σ T ∧ ∀ (r2 : Int) s1, T (some (vI r2)) s1 →
  (r2 = 0 →
    Q (some (vI (-1))) s1) ∧
  (¬ (r2 = 0) →
    ∃ T : Option AV → AS → Prop, am_M Ln d 136 [vR 82, vI a2] s1 T ∧ ∀ (r4 : Int) s3, T (some (vI r4)) s3 →
    (r4 = 0 →
      Q (some (vI (-1))) s3) ∧
    (¬ (r4 = 0) →
      ∃ T : Option AV → AS → Prop, am_M Ln d 137 [vR 82, vI a3] s3 T ∧ ∀ (r6 : Int) s5, T (some (vI r6)) s5 →
      (r6 = 0 →
        Q (some (vI (-1))) s5) ∧
      (¬ (r6 = 0) →
        ∃ T : Option AV → AS → Prop, am_M Ln d 221 [vI a4] s5 T ∧ ∀ (r8 : Int) s7, T (some (vI r8)) s7 →
        (r8 = 0 →
          Q (some (vI (-1))) s7) ∧
        (¬ (r8 = 0) →
          (0 ≤ a3 ∧ a3 < 10) ∧ (∃ T : Option AV → AS → Prop, am_M Ln d 206 [vR 82, vI (s7 82 2), vI (s7 82 2)] (am_up s7 121 a3 a4) T ∧ ∀ s9, T none s9 →
          (0 ≤ a3 ∧ a3 < 10) ∧ (∃ T : Option AV → AS → Prop, am_M Ln d 181 [vR 82, vI a1, vI a2] (am_up s9 121 a3 (-1)) T ∧ ∀ (r11 : Int) s10, T (some (vI r11)) s10 →
          Q (some (vI r11)) s10))))))) : am_M Ln (d + 1) 222 [vR 82, vI a1, vI a2, vI a3, vI a4] σ Q :=
  am_vc_E (d := d) (m := 222) (cut := []) 36 0 (am_entry 222 [vR 82, vI a1, vI a2, vI a3, vI a4]) [] σ h
set_option maxRecDepth 100000 in
theorem vm_X12_choosing {Ln : Int} {d : Nat} {Q : Option AV → AS → Prop} (σ : AS) (h :
  am_E Ln d 223 4 [vR 82, vI 0, vI 0] [] σ Q) : am_M Ln (d + 1) 223 [vR 82] σ Q :=
  am_vc_E (d := d) (m := 223) (cut := [(4, [true, true, true])]) 4 0 (am_entry 223 [vR 82]) [] σ h
set_option maxRecDepth 100000 in
theorem vl_X12_choosing_4 {Ln : Int} {d : Nat} {Q : Option AV → AS → Prop} (σ : AS) (x1 x2 : Int) (h :
  (σ 82 4 ≤ x2 →
    Q (some (vI x1)) σ) ∧
  (¬ (σ 82 4 ≤ x2) →
    (0 ≤ x2 ∧ x2 < 10) ∧ ((σ 129 x2 = 0 →
      am_E Ln d 223 4 [vR 82, vI (w32 (x1 + 0)), vI (w32 (x2 + 1))] [] σ Q) ∧
    (¬ (σ 129 x2 = 0) →
      am_E Ln d 223 4 [vR 82, vI (w32 (x1 + 1)), vI (w32 (x2 + 1))] [] σ Q)))) : am_E Ln d 223 4 [vR 82, vI x1, vI x2] [] σ Q :=
  am_vc_E (d := d) (m := 223) (cut := [(4, [true, true, true])]) 16 4 [vR 82, vI x1, vI x2] [] σ h
set_option maxRecDepth 100000 in
theorem vm_X12_choose {Ln : Int} {d : Nat} {Q : Option AV → AS → Prop} (σ : AS) (a1 a2 : Int) (h :
  ∃ T : Option AV → AS → Prop, am_M Ln d 137 [vR 82, vI a1] σ T ∧ ∀ (r2 : Int) s1, T (some (vI r2)) s1 →
  (r2 = 0 →
    am_b 0 ∧ Q (some (vI 0)) s1) ∧
  (¬ (r2 = 0) →
    ∃ T : Option AV → AS → Prop, am_M Ln d 134 [vL a2, vL 0, vL 31] s1 T ∧ ∀ (r4 : Int) s3, T (some (vI r4)) s3 →
    (r4 = 0 →
      am_b 0 ∧ Q (some (vI 0)) s3) ∧
    (¬ (r4 = 0) →
      (a2 = 0 →
        (0 ≤ a1 ∧ a1 < 10) ∧ (am_b 1 ∧ Q (some (vI 1)) (am_up s3 129 a1 a2))) ∧
      (¬ (a2 = 0) →
        (0 ≤ a1 ∧ a1 < 10) ∧ ((s3 129 a1 = 0 →
          ∃ T : Option AV → AS → Prop, am_M Ln d 223 [vR 82] s3 T ∧ ∀ (r6 : Int) s5, T (some (vI r6)) s5 →
          (r6 = 4 →
            am_b 0 ∧ Q (some (vI 0)) s5) ∧
          (¬ (r6 = 4) →
            (0 ≤ a1 ∧ a1 < 10) ∧ (am_b 1 ∧ Q (some (vI 1)) (am_up s5 129 a1 a2)))) ∧
        (¬ (s3 129 a1 = 0) →
          (0 ≤ a1 ∧ a1 < 10) ∧ (am_b 1 ∧ Q (some (vI 1)) (am_up s3 129 a1 a2)))))))) : am_M Ln (d + 1) 224 [vR 82, vI a1, vI a2] σ Q :=
  am_vc_E (d := d) (m := 224) (cut := []) 28 0 (am_entry 224 [vR 82, vI a1, vI a2]) [] σ h
set_option maxRecDepth 100000 in
theorem vm_X12_isBarred {Ln : Int} {d : Nat} {Q : Option AV → AS → Prop} (σ : AS) (a1 a2 a3 a4 : Int) (h :
  am_E Ln d 225 3 [vR 82, vI a1, vI a2, vI a3, vI a4, vI 0] [] σ Q) : am_M Ln (d + 1) 225 [vR 82, vI a1, vI a2, vI a3, vI a4] σ Q :=
  am_vc_E (d := d) (m := 225) (cut := [(3, [true, true, true, true, true, true])]) 2 0 (am_entry 225 [vR 82, vI a1, vI a2, vI a3, vI a4]) [] σ h
set_option maxRecDepth 100000 in
theorem vl_X12_isBarred_3 {Ln : Int} {d : Nat} {Q : Option AV → AS → Prop} (σ : AS) (x1 x2 x3 x4 x5 : Int) (h :
  (σ 82 10 ≤ x5 →
    am_b 0 ∧ Q (some (vI 0)) σ) ∧
  (¬ (σ 82 10 ≤ x5) →
    (0 ≤ x5 ∧ x5 < 40) ∧ ((σ 130 x5 = x1 →
      (0 ≤ x5 ∧ x5 < 40) ∧ ((σ 131 x5 = x2 →
        (0 ≤ x5 ∧ x5 < 40) ∧ ((σ 132 x5 = x3 →
          (0 ≤ x5 ∧ x5 < 40) ∧ ((σ 133 x5 = x4 →
            am_b 1 ∧ Q (some (vI 1)) σ) ∧
          (¬ (σ 133 x5 = x4) →
            (0 ≤ x5 ∧ x5 < 40) ∧ ((σ 130 x5 = x3 →
              (0 ≤ x5 ∧ x5 < 40) ∧ ((σ 131 x5 = x4 →
                (0 ≤ x5 ∧ x5 < 40) ∧ ((σ 132 x5 = x1 →
                  (0 ≤ x5 ∧ x5 < 40) ∧ ((σ 133 x5 = x2 →
                    am_b 1 ∧ Q (some (vI 1)) σ) ∧
                  (¬ (σ 133 x5 = x2) →
                    am_E Ln d 225 3 [vR 82, vI x1, vI x2, vI x3, vI x4, vI (w32 (x5 + 1))] [] σ Q))) ∧
                (¬ (σ 132 x5 = x1) →
                  am_E Ln d 225 3 [vR 82, vI x1, vI x2, vI x3, vI x4, vI (w32 (x5 + 1))] [] σ Q))) ∧
              (¬ (σ 131 x5 = x4) →
                am_E Ln d 225 3 [vR 82, vI x1, vI x2, vI x3, vI x4, vI (w32 (x5 + 1))] [] σ Q))) ∧
            (¬ (σ 130 x5 = x3) →
              am_E Ln d 225 3 [vR 82, vI x1, vI x2, vI x3, vI x4, vI (w32 (x5 + 1))] [] σ Q))))) ∧
        (¬ (σ 132 x5 = x3) →
          (0 ≤ x5 ∧ x5 < 40) ∧ ((σ 130 x5 = x3 →
            (0 ≤ x5 ∧ x5 < 40) ∧ ((σ 131 x5 = x4 →
              (0 ≤ x5 ∧ x5 < 40) ∧ ((σ 132 x5 = x1 →
                (0 ≤ x5 ∧ x5 < 40) ∧ ((σ 133 x5 = x2 →
                  am_b 1 ∧ Q (some (vI 1)) σ) ∧
                (¬ (σ 133 x5 = x2) →
                  am_E Ln d 225 3 [vR 82, vI x1, vI x2, vI x3, vI x4, vI (w32 (x5 + 1))] [] σ Q))) ∧
              (¬ (σ 132 x5 = x1) →
                am_E Ln d 225 3 [vR 82, vI x1, vI x2, vI x3, vI x4, vI (w32 (x5 + 1))] [] σ Q))) ∧
            (¬ (σ 131 x5 = x4) →
              am_E Ln d 225 3 [vR 82, vI x1, vI x2, vI x3, vI x4, vI (w32 (x5 + 1))] [] σ Q))) ∧
          (¬ (σ 130 x5 = x3) →
            am_E Ln d 225 3 [vR 82, vI x1, vI x2, vI x3, vI x4, vI (w32 (x5 + 1))] [] σ Q))))) ∧
      (¬ (σ 131 x5 = x2) →
        (0 ≤ x5 ∧ x5 < 40) ∧ ((σ 130 x5 = x3 →
          (0 ≤ x5 ∧ x5 < 40) ∧ ((σ 131 x5 = x4 →
            (0 ≤ x5 ∧ x5 < 40) ∧ ((σ 132 x5 = x1 →
              (0 ≤ x5 ∧ x5 < 40) ∧ ((σ 133 x5 = x2 →
                am_b 1 ∧ Q (some (vI 1)) σ) ∧
              (¬ (σ 133 x5 = x2) →
                am_E Ln d 225 3 [vR 82, vI x1, vI x2, vI x3, vI x4, vI (w32 (x5 + 1))] [] σ Q))) ∧
            (¬ (σ 132 x5 = x1) →
              am_E Ln d 225 3 [vR 82, vI x1, vI x2, vI x3, vI x4, vI (w32 (x5 + 1))] [] σ Q))) ∧
          (¬ (σ 131 x5 = x4) →
            am_E Ln d 225 3 [vR 82, vI x1, vI x2, vI x3, vI x4, vI (w32 (x5 + 1))] [] σ Q))) ∧
        (¬ (σ 130 x5 = x3) →
          am_E Ln d 225 3 [vR 82, vI x1, vI x2, vI x3, vI x4, vI (w32 (x5 + 1))] [] σ Q))))) ∧
    (¬ (σ 130 x5 = x1) →
      (0 ≤ x5 ∧ x5 < 40) ∧ ((σ 130 x5 = x3 →
        (0 ≤ x5 ∧ x5 < 40) ∧ ((σ 131 x5 = x4 →
          (0 ≤ x5 ∧ x5 < 40) ∧ ((σ 132 x5 = x1 →
            (0 ≤ x5 ∧ x5 < 40) ∧ ((σ 133 x5 = x2 →
              am_b 1 ∧ Q (some (vI 1)) σ) ∧
            (¬ (σ 133 x5 = x2) →
              am_E Ln d 225 3 [vR 82, vI x1, vI x2, vI x3, vI x4, vI (w32 (x5 + 1))] [] σ Q))) ∧
          (¬ (σ 132 x5 = x1) →
            am_E Ln d 225 3 [vR 82, vI x1, vI x2, vI x3, vI x4, vI (w32 (x5 + 1))] [] σ Q))) ∧
        (¬ (σ 131 x5 = x4) →
          am_E Ln d 225 3 [vR 82, vI x1, vI x2, vI x3, vI x4, vI (w32 (x5 + 1))] [] σ Q))) ∧
      (¬ (σ 130 x5 = x3) →
        am_E Ln d 225 3 [vR 82, vI x1, vI x2, vI x3, vI x4, vI (w32 (x5 + 1))] [] σ Q)))))) : am_E Ln d 225 3 [vR 82, vI x1, vI x2, vI x3, vI x4, vI x5] [] σ Q :=
  am_vc_E (d := d) (m := 225) (cut := [(3, [true, true, true, true, true, true])]) 54 3 [vR 82, vI x1, vI x2, vI x3, vI x4, vI x5] [] σ h
set_option maxRecDepth 100000 in
theorem vm_X12_bar {Ln : Int} {d : Nat} {Q : Option AV → AS → Prop} (σ : AS) (a1 a2 a3 a4 : Int) (h :
  (σ 82 10 = 40 →
    am_b 0 ∧ Q (some (vI 0)) σ) ∧
  (¬ (σ 82 10 = 40) →
    ∃ T : Option AV → AS → Prop, am_M Ln d 137 [vR 82, vI a1] σ T ∧ ∀ (r2 : Int) s1, T (some (vI r2)) s1 →
    (r2 = 0 →
      am_b 0 ∧ Q (some (vI 0)) s1) ∧
    (¬ (r2 = 0) →
      ∃ T : Option AV → AS → Prop, am_M Ln d 137 [vR 82, vI a3] s1 T ∧ ∀ (r4 : Int) s3, T (some (vI r4)) s3 →
      (r4 = 0 →
        am_b 0 ∧ Q (some (vI 0)) s3) ∧
      (¬ (r4 = 0) →
        (a1 = a3 →
          am_b 0 ∧ Q (some (vI 0)) s3) ∧
        (¬ (a1 = a3) →
          ∃ T : Option AV → AS → Prop, am_M Ln d 221 [vI a2] s3 T ∧ ∀ (r6 : Int) s5, T (some (vI r6)) s5 →
          (r6 = 0 →
            am_b 0 ∧ Q (some (vI 0)) s5) ∧
          (¬ (r6 = 0) →
            ∃ T : Option AV → AS → Prop, am_M Ln d 221 [vI a4] s5 T ∧ ∀ (r8 : Int) s7, T (some (vI r8)) s7 →
            (r8 = 0 →
              am_b 0 ∧ Q (some (vI 0)) s7) ∧
            (¬ (r8 = 0) →
              ∃ T : Option AV → AS → Prop, am_M Ln d 225 [vR 82, vI a1, vI a2, vI a3, vI a4] s7 T ∧ ∀ (r10 : Int) s9, T (some (vI r10)) s9 →
              (r10 = 0 →
                (0 ≤ s9 82 10 ∧ s9 82 10 < 40) ∧ ((0 ≤ s9 82 10 ∧ s9 82 10 < 40) ∧ ((0 ≤ s9 82 10 ∧ s9 82 10 < 40) ∧ ((0 ≤ s9 82 10 ∧ s9 82 10 < 40) ∧ (am_b 1 ∧ Q (some (vI 1)) (am_up (am_up (am_up (am_up (am_up s9 130 (s9 82 10) a1) 131 (s9 82 10) a2) 132 (s9 82 10) a3) 133 (s9 82 10) a4) 82 10 (w32 (s9 82 10 + 1)))))))) ∧
              (¬ (r10 = 0) →
                am_b 0 ∧ Q (some (vI 0)) s9)))))))) : am_M Ln (d + 1) 226 [vR 82, vI a1, vI a2, vI a3, vI a4] σ Q :=
  am_vc_E (d := d) (m := 226) (cut := []) 60 0 (am_entry 226 [vR 82, vI a1, vI a2, vI a3, vI a4]) [] σ h
set_option maxRecDepth 100000 in
theorem vm_X12_rowsOf {Ln : Int} {d : Nat} {Q : Option AV → AS → Prop} (σ : AS) (a1 : Int) (h :
  am_E Ln d 227 4 [vU, vI a1, vI 1, vI 0] [] σ Q) : am_M Ln (d + 1) 227 [vR 82, vI a1] σ Q :=
  am_vc_E (d := d) (m := 227) (cut := [(4, [false, true, true, true])]) 4 0 (am_entry 227 [vR 82, vI a1]) [] σ h
set_option maxRecDepth 100000 in
theorem vl_X12_rowsOf_4 {Ln : Int} {d : Nat} {Q : Option AV → AS → Prop} (σ : AS) (x1 x2 x3 : Int) (h :
  (x1 ≤ x3 →
    Q (some (vI x2)) σ) ∧
  (¬ (x1 ≤ x3) →
    am_E Ln d 227 4 [vU, vI x1, vI (w32 (x2 * 5)), vI (w32 (x3 + 1))] [] σ Q)) : am_E Ln d 227 4 [vU, vI x1, vI x2, vI x3] [] σ Q :=
  am_vc_E (d := d) (m := 227) (cut := [(4, [false, true, true, true])]) 9 4 [vU, vI x1, vI x2, vI x3] [] σ h
set_option maxRecDepth 100000 in
theorem vm_X12_laid {Ln : Int} {d : Nat} {Q : Option AV → AS → Prop} (σ : AS) (a1 : Int) (h :
  am_E Ln d 228 7 [vR 82, vU, vI a1, vI 1, vI 0, vU] [] σ Q) : am_M Ln (d + 1) 228 [vR 82, vI a1] σ Q :=
  am_vc_E (d := d) (m := 228) (cut := [(7, [true, false, true, true, true, false]), (84, [true, false, true, true, true, true])]) 6 0 (am_entry 228 [vR 82, vI a1]) [] σ h
set_option maxRecDepth 100000 in
theorem vl_X12_laid_7 {Ln : Int} {d : Nat} {Q : Option AV → AS → Prop} (σ : AS) (x2 x3 x4 : Int) (h :
  (σ 82 4 ≤ x4 →
    am_b x3 ∧ Q (some (vI x3)) σ) ∧
  (¬ (σ 82 4 ≤ x4) →
    (0 ≤ x4 ∧ x4 < 10) ∧ ((0 ≤ x4 ∧ x4 < 10) ∧ ((σ 129 x4 = 0 →
      am_E Ln d 228 7 [vR 82, vU, vI x2, vI x3, vI (w32 (x4 + 1)), vU] [] (am_up σ 121 x4 (-1)) Q) ∧
    (¬ (σ 129 x4 = 0) →
      ¬ (5 : Int) = 0 ∧ ((0 ≤ x4 ∧ x4 < 10) ∧ (¬ (5 : Int) = 0 ∧ ((x3 = 0 →
        am_E Ln d 228 84 [vR 82, vU, vI (w32 (Int.tdiv x2 5)), vI 0, vI x4, vI 0] [] (am_up (am_up σ 121 x4 (-1)) 121 x4 (Int.tmod x2 5)) Q) ∧
      (¬ (x3 = 0) →
        (0 ≤ x4 ∧ x4 < 10) ∧ ((0 ≤ x4 ∧ x4 < 10) ∧ (∃ T : Option AV → AS → Prop, am_M Ln d 135 [vI (σ 129 x4), vI ((am_up (am_up σ 121 x4 (-1)) 121 x4 (Int.tmod x2 5)) 121 x4)] (am_up (am_up σ 121 x4 (-1)) 121 x4 (Int.tmod x2 5)) T ∧ ∀ (r2 : Int) s1, T (some (vI r2)) s1 →
        (r2 = 0 →
          am_E Ln d 228 84 [vR 82, vU, vI (w32 (Int.tdiv x2 5)), vI 0, vI x4, vI 0] [] s1 Q) ∧
        (¬ (r2 = 0) →
          am_E Ln d 228 84 [vR 82, vU, vI (w32 (Int.tdiv x2 5)), vI 1, vI x4, vI 0] [] s1 Q)))))))))))) : am_E Ln d 228 7 [vR 82, vU, vI x2, vI x3, vI x4, vU] [] σ Q :=
  am_vc_E (d := d) (m := 228) (cut := [(7, [true, false, true, true, true, false]), (84, [true, false, true, true, true, true])]) 42 7 [vR 82, vU, vI x2, vI x3, vI x4, vU] [] σ h
set_option maxRecDepth 100000 in
theorem vl_X12_laid_84 {Ln : Int} {d : Nat} {Q : Option AV → AS → Prop} (σ : AS) (x2 x3 x4 x5 : Int) (h :
  (x4 ≤ x5 →
    am_E Ln d 228 7 [vR 82, vU, vI x2, vI x3, vI (w32 (x4 + 1)), vU] [] σ Q) ∧
  (¬ (x4 ≤ x5) →
    (x3 = 0 →
      am_E Ln d 228 84 [vR 82, vU, vI x2, vI 0, vI x4, vI (w32 (x5 + 1))] [] σ Q) ∧
    (¬ (x3 = 0) →
      (0 ≤ x5 ∧ x5 < 10) ∧ ((σ 129 x5 = 0 →
        am_E Ln d 228 84 [vR 82, vU, vI x2, vI 1, vI x4, vI (w32 (x5 + 1))] [] σ Q) ∧
      (¬ (σ 129 x5 = 0) →
        (0 ≤ x5 ∧ x5 < 10) ∧ ((0 ≤ x4 ∧ x4 < 10) ∧ (∃ T : Option AV → AS → Prop, am_M Ln d 225 [vR 82, vI x5, vI (σ 121 x5), vI x4, vI (σ 121 x4)] σ T ∧ ∀ (r2 : Int) s1, T (some (vI r2)) s1 →
        (r2 = 0 →
          am_E Ln d 228 84 [vR 82, vU, vI x2, vI 1, vI x4, vI (w32 (x5 + 1))] [] s1 Q) ∧
        (¬ (r2 = 0) →
          am_E Ln d 228 84 [vR 82, vU, vI x2, vI 0, vI x4, vI (w32 (x5 + 1))] [] s1 Q)))))))) : am_E Ln d 228 84 [vR 82, vU, vI x2, vI x3, vI x4, vI x5] [] σ Q :=
  am_vc_E (d := d) (m := 228) (cut := [(7, [true, false, true, true, true, false]), (84, [true, false, true, true, true, true])]) 28 84 [vR 82, vU, vI x2, vI x3, vI x4, vI x5] [] σ h
set_option maxRecDepth 100000 in
theorem vm_X12_unlaid {Ln : Int} {d : Nat} {Q : Option AV → AS → Prop} (σ : AS) (h :
  am_E Ln d 229 2 [vR 82, vI 0] [] σ Q) : am_M Ln (d + 1) 229 [vR 82] σ Q :=
  am_vc_E (d := d) (m := 229) (cut := [(2, [true, true])]) 2 0 (am_entry 229 [vR 82]) [] σ h
set_option maxRecDepth 100000 in
theorem vl_X12_unlaid_2 {Ln : Int} {d : Nat} {Q : Option AV → AS → Prop} (σ : AS) (x1 : Int) (h :
  (10 ≤ x1 →
    Q none σ) ∧
  (¬ (10 ≤ x1) →
    (0 ≤ x1 ∧ x1 < 10) ∧ (am_E Ln d 229 2 [vR 82, vI (w32 (x1 + 1))] [] (am_up σ 121 x1 (-1)) Q))) : am_E Ln d 229 2 [vR 82, vI x1] [] σ Q :=
  am_vc_E (d := d) (m := 229) (cut := [(2, [true, true])]) 10 2 [vR 82, vI x1] [] σ h
set_option maxRecDepth 100000 in
theorem vm_X12_worthOf {Ln : Int} {d : Nat} {Q : Option AV → AS → Prop} (σ : AS) (a1 : Int) (h :
  ∃ T : Option AV → AS → Prop, am_M Ln d 206 [vR 82, vI (σ 82 2), vI (σ 82 2)] σ T ∧ ∀ s1, T none s1 →
  am_E Ln d 230 16 [vR 82, vI a1, vI 0, vI 0] [] s1 Q) : am_M Ln (d + 1) 230 [vR 82, vI a1] σ Q :=
  am_vc_E (d := d) (m := 230) (cut := [(16, [true, true, true, true]), (55, [true, true, true, true])]) 10 0 (am_entry 230 [vR 82, vI a1]) [] σ h
set_option maxRecDepth 100000 in
theorem vl_X12_worthOf_16 {Ln : Int} {d : Nat} {Q : Option AV → AS → Prop} (σ : AS) (x1 x2 x3 : Int) (h :
  (σ 82 4 ≤ x3 →
    am_E Ln d 230 55 [vR 82, vI x1, vI x2, vI 0] [] σ Q) ∧
  (¬ (σ 82 4 ≤ x3) →
    (0 ≤ x3 ∧ x3 < 10) ∧ ((σ 84 x3 = x1 →
      am_E Ln d 230 16 [vR 82, vI x1, vI (w32 (x2 + 0)), vI (w32 (x3 + 1))] [] σ Q) ∧
    (¬ (σ 84 x3 = x1) →
      ∃ T : Option AV → AS → Prop, am_M Ln d 181 [vR 82, vI x3, vI x1] σ T ∧ ∀ (r2 : Int) s1, T (some (vI r2)) s1 →
      am_E Ln d 230 16 [vR 82, vI x1, vI (w32 (x2 + r2)), vI (w32 (x3 + 1))] [] s1 Q)))) : am_E Ln d 230 16 [vR 82, vI x1, vI x2, vI x3] [] σ Q :=
  am_vc_E (d := d) (m := 230) (cut := [(16, [true, true, true, true]), (55, [true, true, true, true])]) 19 16 [vR 82, vI x1, vI x2, vI x3] [] σ h
set_option maxRecDepth 100000 in
theorem vl_X12_worthOf_55 {Ln : Int} {d : Nat} {Q : Option AV → AS → Prop} (σ : AS) (x1 x2 x3 : Int) (h :
  (σ 82 5 ≤ x3 →
    Q (some (vI x2)) σ) ∧
  (¬ (σ 82 5 ≤ x3) →
    (0 ≤ w32 (w32 (10 * x3) + x1) ∧ w32 (w32 (10 * x3) + x1) < 100) ∧ (am_E Ln d 230 55 [vR 82, vI x1, vI (w32 (x2 + (σ 116 (w32 (w32 (10 * x3) + x1))))), vI (w32 (x3 + 1))] [] σ Q))) : am_E Ln d 230 55 [vR 82, vI x1, vI x2, vI x3] [] σ Q :=
  am_vc_E (d := d) (m := 230) (cut := [(16, [true, true, true, true]), (55, [true, true, true, true])]) 17 55 [vR 82, vI x1, vI x2, vI x3] [] σ h
set_option maxRecDepth 100000 in
theorem vm_X12_digit {Ln : Int} {d : Nat} {Q : Option AV → AS → Prop} (σ : AS) (a1 a2 : Int) (h :
  am_E Ln d 231 4 [vU, vI a2, vI a1, vI 0] [] σ Q) : am_M Ln (d + 1) 231 [vI a1, vI a2] σ Q :=
  am_vc_E (d := d) (m := 231) (cut := [(4, [false, true, true, true])]) 4 0 (am_entry 231 [vI a1, vI a2]) [] σ h
set_option maxRecDepth 100000 in
theorem vl_X12_digit_4 {Ln : Int} {d : Nat} {Q : Option AV → AS → Prop} (σ : AS) (x1 x2 x3 : Int) (h :
  (x1 ≤ x3 →
    ¬ (5 : Int) = 0 ∧ (Q (some (vI (Int.tmod x2 5))) σ)) ∧
  (¬ (x1 ≤ x3) →
    ¬ (5 : Int) = 0 ∧ (am_E Ln d 231 4 [vU, vI x1, vI (w32 (Int.tdiv x2 5)), vI (w32 (x3 + 1))] [] σ Q))) : am_E Ln d 231 4 [vU, vI x1, vI x2, vI x3] [] σ Q :=
  am_vc_E (d := d) (m := 231) (cut := [(4, [false, true, true, true])]) 9 4 [vU, vI x1, vI x2, vI x3] [] σ h
set_option maxRecDepth 100000 in
theorem vm_X12_isLess {Ln : Int} {d : Nat} {Q : Option AV → AS → Prop} (σ : AS) (a1 a2 a3 : Int) (h :
  am_E Ln d 232 3 [vU, vI a1, vI a2, vI a3, vI 0] [] σ Q) : am_M Ln (d + 1) 232 [vR 82, vI a1, vI a2, vI a3] σ Q :=
  am_vc_E (d := d) (m := 232) (cut := [(3, [false, true, true, true, true])]) 2 0 (am_entry 232 [vR 82, vI a1, vI a2, vI a3]) [] σ h
set_option maxRecDepth 100000 in
theorem vl_X12_isLess_3 {Ln : Int} {d : Nat} {Q : Option AV → AS → Prop} (σ : AS) (x1 x2 x3 x4 : Int) (h :
  (x3 ≤ x4 →
    am_b 0 ∧ Q (some (vI 0)) σ) ∧
  (¬ (x3 ≤ x4) →
    ∃ T : Option AV → AS → Prop, am_M Ln d 231 [vI x1, vI x4] σ T ∧ ∀ (r2 : Int) s1, T (some (vI r2)) s1 →
    ∃ T : Option AV → AS → Prop, am_M Ln d 231 [vI x2, vI x4] s1 T ∧ ∀ (r4 : Int) s3, T (some (vI r4)) s3 →
    (r2 = r4 →
      am_E Ln d 232 3 [vU, vI x1, vI x2, vI x3, vI (w32 (x4 + 1))] [] s3 Q) ∧
    (¬ (r2 = r4) →
      ∃ T : Option AV → AS → Prop, am_M Ln d 231 [vI x1, vI x4] s3 T ∧ ∀ (r6 : Int) s5, T (some (vI r6)) s5 →
      ∃ T : Option AV → AS → Prop, am_M Ln d 231 [vI x2, vI x4] s5 T ∧ ∀ (r8 : Int) s7, T (some (vI r8)) s7 →
      (r8 ≤ r6 →
        am_b 0 ∧ Q (some (vI 0)) s7) ∧
      (¬ (r8 ≤ r6) →
        am_b 1 ∧ Q (some (vI 1)) s7)))) : am_E Ln d 232 3 [vU, vI x1, vI x2, vI x3, vI x4] [] σ Q :=
  am_vc_E (d := d) (m := 232) (cut := [(3, [false, true, true, true, true])]) 20 3 [vU, vI x1, vI x2, vI x3, vI x4] [] σ h
set_option maxRecDepth 100000 in
theorem vm_X12_chooses {Ln : Int} {d : Nat} {Q : Option AV → AS → Prop} (σ : AS) (a1 : Int) (h :
  ∃ T : Option AV → AS → Prop, am_M Ln d 223 [vR 82] σ T ∧ ∀ (r2 : Int) s1, T (some (vI r2)) s1 →
  am_E Ln d 233 12 [vR 82, vI a1, vI r2, vI 0, vU] [] (am_up s1 82 75 (-1)) Q) : am_M Ln (d + 1) 233 [vR 82, vI a1] σ Q :=
  am_vc_E (d := d) (m := 233) (cut := [(12, [true, true, true, true, false])]) 8 0 (am_entry 233 [vR 82, vI a1]) [] σ h
set_option maxRecDepth 100000 in
theorem vl_X12_chooses_12 {Ln : Int} {d : Nat} {Q : Option AV → AS → Prop} (σ : AS) (x1 x2 x3 : Int) (h :
  ∃ T : Option AV → AS → Prop, am_M Ln d 227 [vR 82, vI x2] σ T ∧ ∀ (r2 : Int) s1, T (some (vI r2)) s1 →
  (r2 ≤ x3 →
    ∃ T : Option AV → AS → Prop, am_M Ln d 229 [vR 82] s1 T ∧ ∀ s3, T none s3 →
    (s3 82 75 = (-1) →
      am_b 0 ∧ Q (some (vI 0)) s3) ∧
    (¬ (s3 82 75 = (-1)) →
      am_b 1 ∧ Q (some (vI 1)) s3)) ∧
  (¬ (r2 ≤ x3) →
    ∃ T : Option AV → AS → Prop, am_M Ln d 228 [vR 82, vI x3] s1 T ∧ ∀ (r5 : Int) s4, T (some (vI r5)) s4 →
    (r5 = 0 →
      am_E Ln d 233 12 [vR 82, vI x1, vI x2, vI (w32 (x3 + 1)), vU] [] s4 Q) ∧
    (¬ (r5 = 0) →
      ∃ T : Option AV → AS → Prop, am_M Ln d 230 [vR 82, vI x1] s4 T ∧ ∀ (r7 : Int) s6, T (some (vI r7)) s6 →
      (s6 82 75 = (-1) →
        am_E Ln d 233 12 [vR 82, vI x1, vI x2, vI (w32 (x3 + 1)), vU] [] (am_up (am_up s6 82 75 x3) 82 76 r7) Q) ∧
      (¬ (s6 82 75 = (-1)) →
        (r7 < s6 82 76 →
          am_E Ln d 233 12 [vR 82, vI x1, vI x2, vI (w32 (x3 + 1)), vU] [] s6 Q) ∧
        (¬ (r7 < s6 82 76) →
          (r7 = s6 82 76 →
            ∃ T : Option AV → AS → Prop, am_M Ln d 232 [vR 82, vI x3, vI (s6 82 75), vI x2] s6 T ∧ ∀ (r9 : Int) s8, T (some (vI r9)) s8 →
            (r9 = 0 →
              am_E Ln d 233 12 [vR 82, vI x1, vI x2, vI (w32 (x3 + 1)), vU] [] s8 Q) ∧
            (¬ (r9 = 0) →
              am_E Ln d 233 12 [vR 82, vI x1, vI x2, vI (w32 (x3 + 1)), vU] [] (am_up (am_up s8 82 75 x3) 82 76 r7) Q)) ∧
          (¬ (r7 = s6 82 76) →
            am_E Ln d 233 12 [vR 82, vI x1, vI x2, vI (w32 (x3 + 1)), vU] [] (am_up (am_up s6 82 75 x3) 82 76 r7) Q)))))) : am_E Ln d 233 12 [vR 82, vI x1, vI x2, vI x3, vU] [] σ Q :=
  am_vc_E (d := d) (m := 233) (cut := [(12, [true, true, true, true, false])]) 40 12 [vR 82, vI x1, vI x2, vI x3, vU] [] σ h
set_option maxRecDepth 100000 in
theorem vm_X12_best {Ln : Int} {d : Nat} {Q : Option AV → AS → Prop} (σ : AS) (a1 : Int) (h :
  ∃ T : Option AV → AS → Prop, am_M Ln d 136 [vR 82, vI a1] σ T ∧ ∀ (r2 : Int) s1, T (some (vI r2)) s1 →
  (r2 = 0 →
    Q (some (vI (-1))) s1) ∧
  (¬ (r2 = 0) →
    ∃ T : Option AV → AS → Prop, am_M Ln d 233 [vR 82, vI a1] s1 T ∧ ∀ (r4 : Int) s3, T (some (vI r4)) s3 →
    (r4 = 0 →
      Q (some (vI (-1))) s3) ∧
    (¬ (r4 = 0) →
      Q (some (vI (s3 82 76))) s3))) : am_M Ln (d + 1) 234 [vR 82, vI a1] σ Q :=
  am_vc_E (d := d) (m := 234) (cut := []) 12 0 (am_entry 234 [vR 82, vI a1]) [] σ h
set_option maxRecDepth 100000 in
theorem vm_X12_chosen {Ln : Int} {d : Nat} {Q : Option AV → AS → Prop} (σ : AS) (a1 a2 : Int) (h :
  ∃ T : Option AV → AS → Prop, am_M Ln d 136 [vR 82, vI a1] σ T ∧ ∀ (r2 : Int) s1, T (some (vI r2)) s1 →
  (r2 = 0 →
    Q (some (vI (-1))) s1) ∧
  (¬ (r2 = 0) →
    ∃ T : Option AV → AS → Prop, am_M Ln d 223 [vR 82] s1 T ∧ ∀ (r4 : Int) s3, T (some (vI r4)) s3 →
    ∃ T : Option AV → AS → Prop, am_M Ln d 134 [vL a2, vL 0, vL (w32 (r4 - 1))] s3 T ∧ ∀ (r6 : Int) s5, T (some (vI r6)) s5 →
    (r6 = 0 →
      Q (some (vI (-1))) s5) ∧
    (¬ (r6 = 0) →
      ∃ T : Option AV → AS → Prop, am_M Ln d 233 [vR 82, vI a1] s5 T ∧ ∀ (r8 : Int) s7, T (some (vI r8)) s7 →
      (r8 = 0 →
        Q (some (vI (-1))) s7) ∧
      (¬ (r8 = 0) →
        ∃ T : Option AV → AS → Prop, am_M Ln d 231 [vI (s7 82 75), vI a2] s7 T ∧ ∀ (r10 : Int) s9, T (some (vI r10)) s9 →
        Q (some (vI r10)) s9)))) : am_M Ln (d + 1) 235 [vR 82, vI a1, vI a2] σ Q :=
  am_vc_E (d := d) (m := 235) (cut := []) 24 0 (am_entry 235 [vR 82, vI a1, vI a2]) [] σ h
set_option maxRecDepth 100000 in
theorem vm_X12_judge {Ln : Int} {d : Nat} {Q : Option AV → AS → Prop} (σ : AS) (a1 a2 : Int) (h :
  ∃ T : Option AV → AS → Prop, am_M Ln d 136 [vR 82, vI a1] σ T ∧ ∀ (r2 : Int) s1, T (some (vI r2)) s1 →
  (r2 = 0 →
    Q (some (vI (-1))) s1) ∧
  (¬ (r2 = 0) →
    ∃ T : Option AV → AS → Prop, am_M Ln d 223 [vR 82] s1 T ∧ ∀ (r4 : Int) s3, T (some (vI r4)) s3 →
    ∃ T : Option AV → AS → Prop, am_M Ln d 227 [vR 82, vI r4] s3 T ∧ ∀ (r6 : Int) s5, T (some (vI r6)) s5 →
    ∃ T : Option AV → AS → Prop, am_M Ln d 134 [vL a2, vL 0, vL (w32 (r6 - 1))] s5 T ∧ ∀ (r8 : Int) s7, T (some (vI r8)) s7 →
    (r8 = 0 →
      Q (some (vI (-1))) s7) ∧
    (¬ (r8 = 0) →
      ∃ T : Option AV → AS → Prop, am_M Ln d 228 [vR 82, vI a2] s7 T ∧ ∀ (r10 : Int) s9, T (some (vI r10)) s9 →
      (r10 = 0 →
        ∃ T : Option AV → AS → Prop, am_M Ln d 229 [vR 82] s9 T ∧ ∀ s11, T none s11 →
        Q (some (vI (-2))) s11) ∧
      (¬ (r10 = 0) →
        ∃ T : Option AV → AS → Prop, am_M Ln d 230 [vR 82, vI a1] s9 T ∧ ∀ (r13 : Int) s12, T (some (vI r13)) s12 →
        ∃ T : Option AV → AS → Prop, am_M Ln d 229 [vR 82] s12 T ∧ ∀ s14, T none s14 →
        Q (some (vI r13)) s14)))) : am_M Ln (d + 1) 236 [vR 82, vI a1, vI a2] σ Q :=
  am_vc_E (d := d) (m := 236) (cut := []) 29 0 (am_entry 236 [vR 82, vI a1, vI a2]) [] σ h
set_option maxRecDepth 100000 in
theorem vm_X12_debt {Ln : Int} {d : Nat} {Q : Option AV → AS → Prop} (σ : AS) (a1 a2 a3 a4 : Int) (h :
  (σ 82 9 = 40 →
    Q (some (vI (-1))) σ) ∧
  (¬ (σ 82 9 = 40) →
    ∃ T : Option AV → AS → Prop, am_M Ln d 136 [vR 82, vI a1] σ T ∧ ∀ (r2 : Int) s1, T (some (vI r2)) s1 →
    (r2 = 0 →
      Q (some (vI (-1))) s1) ∧
    (¬ (r2 = 0) →
      ∃ T : Option AV → AS → Prop, am_M Ln d 136 [vR 82, vI a2] s1 T ∧ ∀ (r4 : Int) s3, T (some (vI r4)) s3 →
      (r4 = 0 →
        Q (some (vI (-1))) s3) ∧
      (¬ (r4 = 0) →
        (a1 = a2 →
          Q (some (vI (-1))) s3) ∧
        (¬ (a1 = a2) →
          ∃ T : Option AV → AS → Prop, am_M Ln d 134 [vL a3, vL 1, vL 1000000] s3 T ∧ ∀ (r6 : Int) s5, T (some (vI r6)) s5 →
          (r6 = 0 →
            Q (some (vI (-1))) s5) ∧
          (¬ (r6 = 0) →
            ∃ T : Option AV → AS → Prop, am_M Ln d 134 [vL a4, vL 0, vL 3] s5 T ∧ ∀ (r8 : Int) s7, T (some (vI r8)) s7 →
            (r8 = 0 →
              Q (some (vI (-1))) s7) ∧
            (¬ (r8 = 0) →
              (0 ≤ s7 82 9 ∧ s7 82 9 < 40) ∧ ((0 ≤ s7 82 9 ∧ s7 82 9 < 40) ∧ ((0 ≤ s7 82 9 ∧ s7 82 9 < 40) ∧ ((0 ≤ s7 82 9 ∧ s7 82 9 < 40) ∧ (Q (some (vI (w32 (w32 (s7 82 9 + 1) - 1)))) (am_up (am_up (am_up (am_up (am_up s7 134 (s7 82 9) a1) 135 (s7 82 9) a2) 136 (s7 82 9) a3) 137 (s7 82 9) a4) 82 9 (w32 (s7 82 9 + 1)))))))))))))) : am_M Ln (d + 1) 237 [vR 82, vI a1, vI a2, vI a3, vI a4] σ Q :=
  am_vc_E (d := d) (m := 237) (cut := []) 62 0 (am_entry 237 [vR 82, vI a1, vI a2, vI a3, vI a4]) [] σ h
set_option maxRecDepth 100000 in
theorem vm_X12_isOf {Ln : Int} {d : Nat} {Q : Option AV → AS → Prop} (σ : AS) (a1 a2 a3 : Int) (h :
  (0 ≤ a1 ∧ a1 < 40) ∧ ((σ 134 a1 = a2 →
    (0 ≤ a1 ∧ a1 < 40) ∧ ((σ 137 a1 = a3 →
      am_b 1 ∧ Q (some (vI 1)) σ) ∧
    (¬ (σ 137 a1 = a3) →
      am_b 0 ∧ Q (some (vI 0)) σ))) ∧
  (¬ (σ 134 a1 = a2) →
    am_b 0 ∧ Q (some (vI 0)) σ))) : am_M Ln (d + 1) 238 [vR 82, vI a1, vI a2, vI a3] σ Q :=
  am_vc_E (d := d) (m := 238) (cut := []) 15 0 (am_entry 238 [vR 82, vI a1, vI a2, vI a3]) [] σ h
set_option maxRecDepth 100000 in
theorem vm_X12_pays {Ln : Int} {d : Nat} {Q : Option AV → AS → Prop} (σ : AS) (a1 a2 a3 : Int) (h :
  am_E Ln d 239 6 [vR 82, vI a1, vI a2, vI a3, vI 0, vI 0, vU] [] σ Q) : am_M Ln (d + 1) 239 [vR 82, vI a1, vI a2, vI a3] σ Q :=
  am_vc_E (d := d) (m := 239) (cut := [(6, [true, true, true, true, true, true, false]), (54, [true, true, true, true, true, true, true]), (146, [true, true, true, false, false, true, true])]) 4 0 (am_entry 239 [vR 82, vI a1, vI a2, vI a3]) [] σ h
set_option maxRecDepth 100000 in
theorem vl_X12_pays_6 {Ln : Int} {d : Nat} {Q : Option AV → AS → Prop} (σ : AS) (x1 x2 x3 x4 x5 : Int) (h :
  (σ 82 9 ≤ x5 →
    am_E Ln d 239 54 [vR 82, vI x1, vI x2, vI x3, vI x4, vI x3, vI 0] [] σ Q) ∧
  (¬ (σ 82 9 ≤ x5) →
    ∃ T : Option AV → AS → Prop, am_M Ln d 238 [vR 82, vI x5, vI x1, vI x2] σ T ∧ ∀ (r2 : Int) s1, T (some (vI r2)) s1 →
    (r2 = 0 →
      am_E Ln d 239 6 [vR 82, vI x1, vI x2, vI x3, vI (w32 (x4 + 0)), vI (w32 (x5 + 1)), vU] [] s1 Q) ∧
    (¬ (r2 = 0) →
      (0 ≤ x5 ∧ x5 < 40) ∧ (am_E Ln d 239 6 [vR 82, vI x1, vI x2, vI x3, vI (w32 (x4 + (s1 136 x5))), vI (w32 (x5 + 1)), vU] [] s1 Q)))) : am_E Ln d 239 6 [vR 82, vI x1, vI x2, vI x3, vI x4, vI x5, vU] [] σ Q :=
  am_vc_E (d := d) (m := 239) (cut := [(6, [true, true, true, true, true, true, false]), (54, [true, true, true, true, true, true, true]), (146, [true, true, true, false, false, true, true])]) 20 6 [vR 82, vI x1, vI x2, vI x3, vI x4, vI x5, vU] [] σ h
set_option maxRecDepth 100000 in
theorem vl_X12_pays_54 {Ln : Int} {d : Nat} {Q : Option AV → AS → Prop} (σ : AS) (x1 x2 x3 x4 x5 x6 : Int) (h :
  (σ 82 9 ≤ x6 →
    (x3 < x4 →
      am_E Ln d 239 146 [vR 82, vI x1, vI x2, vU, vU, vI x5, vI 0] [] σ Q) ∧
    (¬ (x3 < x4) →
      Q (some (vI x5)) σ)) ∧
  (¬ (σ 82 9 ≤ x6) →
    ∃ T : Option AV → AS → Prop, am_M Ln d 238 [vR 82, vI x6, vI x1, vI x2] σ T ∧ ∀ (r2 : Int) s1, T (some (vI r2)) s1 →
    (r2 = 0 →
      am_E Ln d 239 54 [vR 82, vI x1, vI x2, vI x3, vI x4, vI x5, vI (w32 (x6 + 1))] [] s1 Q) ∧
    (¬ (r2 = 0) →
      (x3 < x4 →
        (0 ≤ x6 ∧ x6 < 40) ∧ (¬ x4 = 0 ∧ ((0 ≤ x6 ∧ x6 < 40) ∧ ((0 ≤ x6 ∧ x6 < 40) ∧ (am_E Ln d 239 54 [vR 82, vI x1, vI x2, vI x3, vI x4, vI (w32 (x5 - ((am_up s1 138 x6 (w32 (w64 (Int.tdiv (w64 (x3 * (s1 136 x6))) x4)))) 138 x6))), vI (w32 (x6 + 1))] [] (am_up s1 138 x6 (w32 (w64 (Int.tdiv (w64 (x3 * (s1 136 x6))) x4)))) Q))))) ∧
      (¬ (x3 < x4) →
        (0 ≤ x6 ∧ x6 < 40) ∧ ((0 ≤ x6 ∧ x6 < 40) ∧ ((0 ≤ x6 ∧ x6 < 40) ∧ (am_E Ln d 239 54 [vR 82, vI x1, vI x2, vI x3, vI x4, vI (w32 (x5 - ((am_up s1 138 x6 (s1 136 x6)) 138 x6))), vI (w32 (x6 + 1))] [] (am_up s1 138 x6 (s1 136 x6)) Q))))))) : am_E Ln d 239 54 [vR 82, vI x1, vI x2, vI x3, vI x4, vI x5, vI x6] [] σ Q :=
  am_vc_E (d := d) (m := 239) (cut := [(6, [true, true, true, true, true, true, false]), (54, [true, true, true, true, true, true, true]), (146, [true, true, true, false, false, true, true])]) 38 54 [vR 82, vI x1, vI x2, vI x3, vI x4, vI x5, vI x6] [] σ h
set_option maxRecDepth 100000 in
theorem vl_X12_pays_146 {Ln : Int} {d : Nat} {Q : Option AV → AS → Prop} (σ : AS) (x1 x2 x5 x6 : Int) (h :
  (σ 82 9 ≤ x6 →
    Q (some (vI (-1))) σ) ∧
  (¬ (σ 82 9 ≤ x6) →
    (x5 ≤ 0 →
      Q (some (vI (-1))) σ) ∧
    (¬ (x5 ≤ 0) →
      ∃ T : Option AV → AS → Prop, am_M Ln d 238 [vR 82, vI x6, vI x1, vI x2] σ T ∧ ∀ (r2 : Int) s1, T (some (vI r2)) s1 →
      (r2 = 0 →
        am_E Ln d 239 146 [vR 82, vI x1, vI x2, vU, vU, vI x5, vI (w32 (x6 + 1))] [] s1 Q) ∧
      (¬ (r2 = 0) →
        (0 ≤ x6 ∧ x6 < 40) ∧ ((0 ≤ x6 ∧ x6 < 40) ∧ (am_E Ln d 239 146 [vR 82, vI x1, vI x2, vU, vU, vI (w32 (x5 + (-1))), vI (w32 (x6 + 1))] [] (am_up s1 138 x6 (w32 (s1 138 x6 + 1))) Q)))))) : am_E Ln d 239 146 [vR 82, vI x1, vI x2, vU, vU, vI x5, vI x6] [] σ Q :=
  am_vc_E (d := d) (m := 239) (cut := [(6, [true, true, true, true, true, true, false]), (54, [true, true, true, true, true, true, true]), (146, [true, true, true, false, false, true, true])]) 23 146 [vR 82, vI x1, vI x2, vU, vU, vI x5, vI x6] [] σ h
set_option maxRecDepth 100000 in
theorem vm_X12_paid {Ln : Int} {d : Nat} {Q : Option AV → AS → Prop} (σ : AS) (a1 : Int) (h :
  ∃ T : Option AV → AS → Prop, am_M Ln d 134 [vL a1, vL 0, vL (w32 (σ 82 9 - 1))] σ T ∧ ∀ (r2 : Int) s1, T (some (vI r2)) s1 →
  (r2 = 0 →
    Q (some (vI (-1))) s1) ∧
  (¬ (r2 = 0) →
    (0 ≤ a1 ∧ a1 < 40) ∧ (∃ T : Option AV → AS → Prop, am_M Ln d 206 [vR 82, vI (s1 82 2), vI (s1 82 2)] s1 T ∧ ∀ s3, T none s3 →
    am_E Ln d 240 42 [vR 82, vI a1, vI (s1 134 a1), vI 0, vI 0] [] s3 Q))) : am_M Ln (d + 1) 240 [vR 82, vI a1] σ Q :=
  am_vc_E (d := d) (m := 240) (cut := [(42, [true, true, true, true, true]), (85, [true, true, true, true, true]), (111, [true, true, true, true, true])]) 25 0 (am_entry 240 [vR 82, vI a1]) [] σ h
set_option maxRecDepth 100000 in
theorem vl_X12_paid_42 {Ln : Int} {d : Nat} {Q : Option AV → AS → Prop} (σ : AS) (x1 x2 x3 x4 : Int) (h :
  (σ 82 4 ≤ x4 →
    am_E Ln d 240 85 [vR 82, vI x1, vI x2, vI x3, vI 0] [] σ Q) ∧
  (¬ (σ 82 4 ≤ x4) →
    (0 ≤ x4 ∧ x4 < 10) ∧ ((σ 84 x4 = x2 →
      ∃ T : Option AV → AS → Prop, am_M Ln d 181 [vR 82, vI x4, vI x2] σ T ∧ ∀ (r2 : Int) s1, T (some (vI r2)) s1 →
      am_E Ln d 240 42 [vR 82, vI x1, vI x2, vI (w32 (x3 + r2)), vI (w32 (x4 + 1))] [] s1 Q) ∧
    (¬ (σ 84 x4 = x2) →
      am_E Ln d 240 42 [vR 82, vI x1, vI x2, vI (w32 (x3 + 0)), vI (w32 (x4 + 1))] [] σ Q)))) : am_E Ln d 240 42 [vR 82, vI x1, vI x2, vI x3, vI x4] [] σ Q :=
  am_vc_E (d := d) (m := 240) (cut := [(42, [true, true, true, true, true]), (85, [true, true, true, true, true]), (111, [true, true, true, true, true])]) 20 42 [vR 82, vI x1, vI x2, vI x3, vI x4] [] σ h
set_option maxRecDepth 100000 in
theorem vl_X12_paid_85 {Ln : Int} {d : Nat} {Q : Option AV → AS → Prop} (σ : AS) (x1 x2 x3 x4 : Int) (h :
  (σ 82 9 ≤ x4 →
    am_E Ln d 240 111 [vR 82, vI x1, vI x2, vI x3, vI 0] [] σ Q) ∧
  (¬ (σ 82 9 ≤ x4) →
    (0 ≤ x4 ∧ x4 < 40) ∧ (am_E Ln d 240 85 [vR 82, vI x1, vI x2, vI x3, vI (w32 (x4 + 1))] [] (am_up σ 138 x4 0) Q))) : am_E Ln d 240 85 [vR 82, vI x1, vI x2, vI x3, vI x4] [] σ Q :=
  am_vc_E (d := d) (m := 240) (cut := [(42, [true, true, true, true, true]), (85, [true, true, true, true, true]), (111, [true, true, true, true, true])]) 11 85 [vR 82, vI x1, vI x2, vI x3, vI x4] [] σ h
set_option maxRecDepth 100000 in
theorem vl_X12_paid_111 {Ln : Int} {d : Nat} {Q : Option AV → AS → Prop} (σ : AS) (x1 x2 x3 x4 : Int) (h :
  (4 ≤ x4 →
    (0 ≤ x1 ∧ x1 < 40) ∧ (Q (some (vI (σ 138 x1))) σ)) ∧
  (¬ (4 ≤ x4) →
    (x3 < 0 →
      (0 ≤ x1 ∧ x1 < 40) ∧ (Q (some (vI (σ 138 x1))) σ)) ∧
    (¬ (x3 < 0) →
      ∃ T : Option AV → AS → Prop, am_M Ln d 239 [vR 82, vI x2, vI x4, vI x3] σ T ∧ ∀ (r2 : Int) s1, T (some (vI r2)) s1 →
      am_E Ln d 240 111 [vR 82, vI x1, vI x2, vI r2, vI (w32 (x4 + 1))] [] s1 Q))) : am_E Ln d 240 111 [vR 82, vI x1, vI x2, vI x3, vI x4] [] σ Q :=
  am_vc_E (d := d) (m := 240) (cut := [(42, [true, true, true, true, true]), (85, [true, true, true, true, true]), (111, [true, true, true, true, true])]) 13 111 [vR 82, vI x1, vI x2, vI x3, vI x4] [] σ h
set_option maxRecDepth 100000 in
theorem vm_X12_numberAt {Ln : Int} {d : Nat} {Q : Option AV → AS → Prop} (σ : AS) (a1 : Int) (h :
  am_E Ln d 241 4 [vR 82, vI a1, vI 0, vI 0] [] σ Q) : am_M Ln (d + 1) 241 [vR 82, vI a1] σ Q :=
  am_vc_E (d := d) (m := 241) (cut := [(4, [true, true, true, true])]) 4 0 (am_entry 241 [vR 82, vI a1]) [] σ h
set_option maxRecDepth 100000 in
theorem vl_X12_numberAt_4 {Ln : Int} {d : Nat} {Q : Option AV → AS → Prop} (σ : AS) (x1 x2 x3 : Int) (h :
  (4 ≤ x3 →
    Q (some (vI x2)) σ) ∧
  (¬ (4 ≤ x3) →
    (0 ≤ w32 (w32 (4 * x1) + x3) ∧ w32 (w32 (4 * x1) + x3) < 400) ∧ (am_E Ln d 241 4 [vR 82, vI x1, vI (bOr (bShl x2 8) (bAnd (σ 83 (w32 (w32 (4 * x1) + x3))) 255)), vI (w32 (x3 + 1))] [] σ Q))) : am_E Ln d 241 4 [vR 82, vI x1, vI x2, vI x3] [] σ Q :=
  am_vc_E (d := d) (m := 241) (cut := [(4, [true, true, true, true])]) 20 4 [vR 82, vI x1, vI x2, vI x3] [] σ h
set_option maxRecDepth 100000 in
theorem vm_X12_check {Ln : Int} {d : Nat} {Q : Option AV → AS → Prop} (σ : AS) (a1 : Int) (h :
  (a1 < 0 →
    Q (some (vI (-2))) σ) ∧
  (¬ (a1 < 0) →
    ¬ (12 : Int) = 0 ∧ ((a1 ≤ w32 (Int.tdiv (σ 82 1) 12) →
      ∃ T : Option AV → AS → Prop, am_M Ln d 206 [vR 82, vI (σ 82 2), vI (σ 82 2)] (am_up σ 82 1 0) T ∧ ∀ s1, T none s1 →
      am_E Ln d 242 39 [vR 82, vI a1, vI 0, vI 0, vU] [] s1 Q) ∧
    (¬ (a1 ≤ w32 (Int.tdiv (σ 82 1) 12)) →
      Q (some (vI (-2))) σ)))) : am_M Ln (d + 1) 242 [vR 82, vI a1] σ Q :=
  am_vc_E (d := d) (m := 242) (cut := [(39, [true, true, true, true, false]), (50, [true, true, true, true, true])]) 21 0 (am_entry 242 [vR 82, vI a1]) [] σ h
set_option maxRecDepth 100000 in
theorem vl_X12_check_39 {Ln : Int} {d : Nat} {Q : Option AV → AS → Prop} (σ : AS) (x1 x2 x3 : Int) (h :
  (σ 82 4 ≤ x3 →
    (x2 = x1 →
      Q (some (vI (-1))) σ) ∧
    (¬ (x2 = x1) →
      Q (some (vI (w32 (3 * x2)))) σ)) ∧
  (¬ (σ 82 4 ≤ x3) →
    am_E Ln d 242 50 [vR 82, vI x1, vI x2, vI x3, vI 0] [] σ Q)) : am_E Ln d 242 39 [vR 82, vI x1, vI x2, vI x3, vU] [] σ Q :=
  am_vc_E (d := d) (m := 242) (cut := [(39, [true, true, true, true, false]), (50, [true, true, true, true, true])]) 11 39 [vR 82, vI x1, vI x2, vI x3, vU] [] σ h
set_option maxRecDepth 100000 in
theorem vl_X12_check_50 {Ln : Int} {d : Nat} {Q : Option AV → AS → Prop} (σ : AS) (x1 x2 x3 x4 : Int) (h :
  (σ 82 3 ≤ x4 →
    am_E Ln d 242 39 [vR 82, vI x1, vI x2, vI (w32 (x3 + 1)), vU] [] σ Q) ∧
  (¬ (σ 82 3 ≤ x4) →
    ∃ T : Option AV → AS → Prop, am_M Ln d 181 [vR 82, vI x3, vI x4] σ T ∧ ∀ (r2 : Int) s1, T (some (vI r2)) s1 →
    (r2 = 0 →
      am_E Ln d 242 50 [vR 82, vI x1, vI x2, vI x3, vI (w32 (x4 + 1))] [] s1 Q) ∧
    (¬ (r2 = 0) →
      (x2 = x1 →
        Q (some (vI (w32 (3 * x1)))) s1) ∧
      (¬ (x2 = x1) →
        ∃ T : Option AV → AS → Prop, am_M Ln d 241 [vR 82, vI (w32 (3 * x2))] s1 T ∧ ∀ (r4 : Int) s3, T (some (vI r4)) s3 →
        (r4 = x3 →
          ∃ T : Option AV → AS → Prop, am_M Ln d 241 [vR 82, vI (w32 (w32 (3 * x2) + 1))] s3 T ∧ ∀ (r6 : Int) s5, T (some (vI r6)) s5 →
          (r6 = x4 →
            ∃ T : Option AV → AS → Prop, am_M Ln d 241 [vR 82, vI (w32 (w32 (3 * x2) + 2))] s5 T ∧ ∀ (r8 : Int) s7, T (some (vI r8)) s7 →
            ∃ T : Option AV → AS → Prop, am_M Ln d 181 [vR 82, vI x3, vI x4] s7 T ∧ ∀ (r10 : Int) s9, T (some (vI r10)) s9 →
            (r8 = r10 →
              am_E Ln d 242 50 [vR 82, vI x1, vI (w32 (x2 + 1)), vI x3, vI (w32 (x4 + 1))] [] s9 Q) ∧
            (¬ (r8 = r10) →
              Q (some (vI (w32 (w32 (3 * x2) + 2)))) s9)) ∧
          (¬ (r6 = x4) →
            Q (some (vI (w32 (w32 (3 * x2) + 1)))) s5)) ∧
        (¬ (r4 = x3) →
          Q (some (vI (w32 (3 * x2)))) s3))))) : am_E Ln d 242 50 [vR 82, vI x1, vI x2, vI x3, vI x4] [] σ Q :=
  am_vc_E (d := d) (m := 242) (cut := [(39, [true, true, true, true, false]), (50, [true, true, true, true, true])]) 46 50 [vR 82, vI x1, vI x2, vI x3, vI x4] [] σ h
set_option maxRecDepth 100000 in
theorem vm_X12_look {Ln : Int} {d : Nat} {Q : Option AV → AS → Prop} (σ : AS) (a1 a2 : Int) (h :
  ∃ T : Option AV → AS → Prop, am_M Ln d 148 [vR 82, vI a1] σ T ∧ ∀ (r2 : Int) s1, T (some (vI r2)) s1 →
  (r2 = 0 →
    Q (some (vI (-1))) s1) ∧
  (¬ (r2 = 0) →
    (a2 = 0 →
      (0 ≤ a1 ∧ a1 < 100) ∧ (Q (some (vI (s1 86 a1))) s1)) ∧
    (a2 = 0 + 1 →
      (0 ≤ a1 ∧ a1 < 100) ∧ (Q (some (vI (s1 87 a1))) s1)) ∧
    (a2 = 0 + 1 + 1 →
      (0 ≤ a1 ∧ a1 < 100) ∧ (Q (some (vI (s1 88 a1))) s1)) ∧
    (a2 = 0 + 1 + 1 + 1 →
      (0 ≤ a1 ∧ a1 < 100) ∧ (Q (some (vI (s1 89 a1))) s1)) ∧
    (a2 = 0 + 1 + 1 + 1 + 1 →
      (0 ≤ a1 ∧ a1 < 100) ∧ (Q (some (vI (s1 90 a1))) s1)) ∧
    (a2 = 0 + 1 + 1 + 1 + 1 + 1 →
      (0 ≤ a1 ∧ a1 < 100) ∧ (Q (some (vI (s1 91 a1))) s1)) ∧
    (a2 = 0 + 1 + 1 + 1 + 1 + 1 + 1 →
      (0 ≤ a1 ∧ a1 < 100) ∧ (Q (some (vI (s1 92 a1))) s1)) ∧
    (a2 = 0 + 1 + 1 + 1 + 1 + 1 + 1 + 1 →
      (0 ≤ a1 ∧ a1 < 100) ∧ (Q (some (vI (s1 93 a1))) s1)) ∧
    (a2 = 0 + 1 + 1 + 1 + 1 + 1 + 1 + 1 + 1 →
      (0 ≤ a1 ∧ a1 < 100) ∧ (Q (some (vI (s1 94 a1))) s1)) ∧
    (a2 = 0 + 1 + 1 + 1 + 1 + 1 + 1 + 1 + 1 + 1 →
      (0 ≤ a1 ∧ a1 < 100) ∧ ((s1 95 a1 = 0 →
        Q (some (vI 0)) s1) ∧
      (¬ (s1 95 a1 = 0) →
        Q (some (vI 1)) s1))) ∧
    (a2 < 0 ∨ 9 < a2 →
      Q (some (vI (-1))) s1) ∧ True)) : am_M Ln (d + 1) 243 [vR 82, vI a1, vI a2] σ Q :=
  am_vc_E (d := d) (m := 243) (cut := []) 14 0 (am_entry 243 [vR 82, vI a1, vI a2]) [] σ h
set_option maxRecDepth 100000 in
theorem vm_X12_count {Ln : Int} {d : Nat} {Q : Option AV → AS → Prop} (σ : AS) (a1 : Int) (h :
  ∃ T : Option AV → AS → Prop, am_M Ln d 134 [vL a1, vL 20, vL (w32 (19 + (σ 82 7)))] σ T ∧ ∀ (r2 : Int) s1, T (some (vI r2)) s1 →
  (r2 = 0 →
    (a1 = 0 →
      Q (some (vI (s1 82 2))) s1) ∧
    (a1 = 0 + 1 →
      Q (some (vI (s1 82 3))) s1) ∧
    (a1 = 0 + 1 + 1 →
      Q (some (vI (s1 82 4))) s1) ∧
    (a1 = 0 + 1 + 1 + 1 →
      Q (some (vI (s1 82 5))) s1) ∧
    (a1 = 0 + 1 + 1 + 1 + 1 →
      Q (some (vI (s1 82 6))) s1) ∧
    (a1 = 0 + 1 + 1 + 1 + 1 + 1 →
      Q (some (vI (s1 82 7))) s1) ∧
    (a1 = 0 + 1 + 1 + 1 + 1 + 1 + 1 →
      Q (some (vI (s1 82 8))) s1) ∧
    (a1 = 0 + 1 + 1 + 1 + 1 + 1 + 1 + 1 →
      Q (some (vI (s1 82 9))) s1) ∧
    (a1 = 0 + 1 + 1 + 1 + 1 + 1 + 1 + 1 + 1 →
      Q (some (vI (s1 82 1))) s1) ∧
    (a1 = 0 + 1 + 1 + 1 + 1 + 1 + 1 + 1 + 1 + 1 →
      ∃ T : Option AV → AS → Prop, am_M Ln d 223 [vR 82] s1 T ∧ ∀ (r4 : Int) s3, T (some (vI r4)) s3 →
      Q (some (vI r4)) s3) ∧
    (a1 = 0 + 1 + 1 + 1 + 1 + 1 + 1 + 1 + 1 + 1 + 1 →
      Q (some (vI (s1 82 10))) s1) ∧
    (a1 < 0 ∨ 10 < a1 →
      Q (some (vI (-1))) s1) ∧ True) ∧
  (¬ (r2 = 0) →
    (0 ≤ w32 (a1 - 20) ∧ w32 (a1 - 20) < 20) ∧ (Q (some (vI (s1 100 (w32 (a1 - 20))))) s1))) : am_M Ln (d + 1) 244 [vR 82, vI a1] σ Q :=
  am_vc_E (d := d) (m := 244) (cut := []) 17 0 (am_entry 244 [vR 82, vI a1]) [] σ h
