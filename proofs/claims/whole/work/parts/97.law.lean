/-! verification conditions of the law, printed by wip/tools/gen_law.py -/
set_option maxRecDepth 100000 in
theorem vl_law_16 {Ln : Int} {d : Nat} {Q : Option AV → AS → Prop} (σ : AS) (h :
  am_E Ln d 0 18 [vR 0, vR 1, vR 82, vI 0] [] σ Q) : am_E Ln d 0 16 [vR 0, vR 1, vR 82, vU] [] σ Q :=
  am_vc_E (d := d) (m := 0) (cut := [(18, [true, true, true, true])]) 2 16 [vR 0, vR 1, vR 82, vU] [] σ h
set_option maxRecDepth 100000 in
theorem vl_law_18 {Ln : Int} {d : Nat} {Q : Option AV → AS → Prop} (σ : AS) (x3 : Int) (h :
  (w32 (Ln - 8) < x3 →
    am_b 1 ∧ Q (some (vI 1)) σ) ∧
  (¬ (w32 (Ln - 8) < x3) →
    (0 ≤ x3 ∧ x3 < Ln) ∧ ((bAnd (σ 0 x3) 31 = 0 →
      (0 ≤ w32 (x3 + 1) ∧ w32 (x3 + 1) < Ln) ∧ (∃ T : Option AV → AS → Prop, am_M Ln d 92 [vR 1, vI (σ 0 (w32 (x3 + 1)))] σ T ∧ ∀ (r2 : Int) s1, T (some (vI r2)) s1 →
      (0 ≤ w32 (x3 + 1) ∧ w32 (x3 + 1) < Ln) ∧ (∃ T : Option AV → AS → Prop, am_M Ln d 140 [vR 82, vI (s1 0 (w32 (x3 + 1)))] s1 T ∧ ∀ (r4 : Int) s3, T (some (vI r4)) s3 →
      (r2 = r4 →
        am_E Ln d 0 18 [vR 0, vR 1, vR 82, vI (w32 (x3 + 8))] [] s3 Q) ∧
      (¬ (r2 = r4) →
        am_b 0 ∧ Q (some (vI 0)) s3)))) ∧
    (bAnd (σ 0 x3) 31 = 0 + 1 →
      ∃ T : Option AV → AS → Prop, am_M Ln d 93 [vR 1] σ T ∧ ∀ (r6 : Int) s5, T (some (vI r6)) s5 →
      ∃ T : Option AV → AS → Prop, am_M Ln d 141 [vR 82] s5 T ∧ ∀ (r8 : Int) s7, T (some (vI r8)) s7 →
      (r6 = r8 →
        am_E Ln d 0 18 [vR 0, vR 1, vR 82, vI (w32 (x3 + 8))] [] s7 Q) ∧
      (¬ (r6 = r8) →
        am_b 0 ∧ Q (some (vI 0)) s7)) ∧
    (bAnd (σ 0 x3) 31 = 0 + 1 + 1 →
      (0 ≤ w32 (x3 + 1) ∧ w32 (x3 + 1) < Ln) ∧ ((0 ≤ w32 (x3 + 2) ∧ w32 (x3 + 2) < Ln) ∧ (∃ T : Option AV → AS → Prop, am_M Ln d 94 [vR 1, vI (σ 0 (w32 (x3 + 1))), vI (σ 0 (w32 (x3 + 2)))] σ T ∧ ∀ (r10 : Int) s9, T (some (vI r10)) s9 →
      (0 ≤ w32 (x3 + 1) ∧ w32 (x3 + 1) < Ln) ∧ ((0 ≤ w32 (x3 + 2) ∧ w32 (x3 + 2) < Ln) ∧ (∃ T : Option AV → AS → Prop, am_M Ln d 142 [vR 82, vI (s9 0 (w32 (x3 + 1))), vI (s9 0 (w32 (x3 + 2)))] s9 T ∧ ∀ (r12 : Int) s11, T (some (vI r12)) s11 →
      (r10 = r12 →
        am_E Ln d 0 18 [vR 0, vR 1, vR 82, vI (w32 (x3 + 8))] [] s11 Q) ∧
      (¬ (r10 = r12) →
        am_b 0 ∧ Q (some (vI 0)) s11)))))) ∧
    (bAnd (σ 0 x3) 31 = 0 + 1 + 1 + 1 →
      ∃ T : Option AV → AS → Prop, am_M Ln d 95 [vR 1] σ T ∧ ∀ (r14 : Int) s13, T (some (vI r14)) s13 →
      ∃ T : Option AV → AS → Prop, am_M Ln d 143 [vR 82] s13 T ∧ ∀ (r16 : Int) s15, T (some (vI r16)) s15 →
      (r14 = r16 →
        am_E Ln d 0 18 [vR 0, vR 1, vR 82, vI (w32 (x3 + 8))] [] s15 Q) ∧
      (¬ (r14 = r16) →
        am_b 0 ∧ Q (some (vI 0)) s15)) ∧
    (bAnd (σ 0 x3) 31 = 0 + 1 + 1 + 1 + 1 →
      (0 ≤ w32 (x3 + 1) ∧ w32 (x3 + 1) < Ln) ∧ ((0 ≤ w32 (x3 + 2) ∧ w32 (x3 + 2) < Ln) ∧ ((0 ≤ w32 (x3 + 3) ∧ w32 (x3 + 3) < Ln) ∧ ((0 ≤ w32 (x3 + 4) ∧ w32 (x3 + 4) < Ln) ∧ ((0 ≤ w32 (x3 + 5) ∧ w32 (x3 + 5) < Ln) ∧ ((0 ≤ w32 (x3 + 6) ∧ w32 (x3 + 6) < Ln) ∧ ((0 ≤ w32 (x3 + 7) ∧ w32 (x3 + 7) < Ln) ∧ (∃ T : Option AV → AS → Prop, am_M Ln d 96 [vR 1, vI (σ 0 (w32 (x3 + 1))), vI (σ 0 (w32 (x3 + 2))), vI (σ 0 (w32 (x3 + 3))), vI (σ 0 (w32 (x3 + 4))), vI (σ 0 (w32 (x3 + 5))), vI (σ 0 (w32 (x3 + 6))), vI (σ 0 (w32 (x3 + 7)))] σ T ∧ ∀ (r18 : Int) s17, T (some (vI r18)) s17 →
      (0 ≤ w32 (x3 + 1) ∧ w32 (x3 + 1) < Ln) ∧ ((0 ≤ w32 (x3 + 2) ∧ w32 (x3 + 2) < Ln) ∧ ((0 ≤ w32 (x3 + 3) ∧ w32 (x3 + 3) < Ln) ∧ ((0 ≤ w32 (x3 + 4) ∧ w32 (x3 + 4) < Ln) ∧ ((0 ≤ w32 (x3 + 5) ∧ w32 (x3 + 5) < Ln) ∧ ((0 ≤ w32 (x3 + 6) ∧ w32 (x3 + 6) < Ln) ∧ ((0 ≤ w32 (x3 + 7) ∧ w32 (x3 + 7) < Ln) ∧ (∃ T : Option AV → AS → Prop, am_M Ln d 145 [vR 82, vI (s17 0 (w32 (x3 + 1))), vI (s17 0 (w32 (x3 + 2))), vI (s17 0 (w32 (x3 + 3))), vI (s17 0 (w32 (x3 + 4))), vI (s17 0 (w32 (x3 + 5))), vI (s17 0 (w32 (x3 + 6))), vI (s17 0 (w32 (x3 + 7)))] s17 T ∧ ∀ (r20 : Int) s19, T (some (vI r20)) s19 →
      (r18 = r20 →
        am_E Ln d 0 18 [vR 0, vR 1, vR 82, vI (w32 (x3 + 8))] [] s19 Q) ∧
      (¬ (r18 = r20) →
        am_b 0 ∧ Q (some (vI 0)) s19)))))))))))))))) ∧
    (bAnd (σ 0 x3) 31 = 0 + 1 + 1 + 1 + 1 + 1 →
      (0 ≤ w32 (x3 + 1) ∧ w32 (x3 + 1) < Ln) ∧ ((0 ≤ w32 (x3 + 2) ∧ w32 (x3 + 2) < Ln) ∧ ((0 ≤ w32 (x3 + 3) ∧ w32 (x3 + 3) < Ln) ∧ ((0 ≤ w32 (x3 + 4) ∧ w32 (x3 + 4) < Ln) ∧ ((σ 0 (w32 (x3 + 4)) = 0 →
        (0 ≤ w32 (x3 + 5) ∧ w32 (x3 + 5) < Ln) ∧ ((0 ≤ w32 (x3 + 6) ∧ w32 (x3 + 6) < Ln) ∧ ((0 ≤ w32 (x3 + 7) ∧ w32 (x3 + 7) < Ln) ∧ (∃ T : Option AV → AS → Prop, am_M Ln d 97 [vR 1, vI (σ 0 (w32 (x3 + 1))), vI (σ 0 (w32 (x3 + 2))), vI (σ 0 (w32 (x3 + 3))), vI 0, vI (σ 0 (w32 (x3 + 5))), vI (σ 0 (w32 (x3 + 6))), vI (σ 0 (w32 (x3 + 7)))] σ T ∧ ∀ (r22 : Int) s21, T (some (vI r22)) s21 →
        (0 ≤ w32 (x3 + 1) ∧ w32 (x3 + 1) < Ln) ∧ ((0 ≤ w32 (x3 + 2) ∧ w32 (x3 + 2) < Ln) ∧ ((0 ≤ w32 (x3 + 3) ∧ w32 (x3 + 3) < Ln) ∧ ((0 ≤ w32 (x3 + 4) ∧ w32 (x3 + 4) < Ln) ∧ ((s21 0 (w32 (x3 + 4)) = 0 →
          (0 ≤ w32 (x3 + 5) ∧ w32 (x3 + 5) < Ln) ∧ ((0 ≤ w32 (x3 + 6) ∧ w32 (x3 + 6) < Ln) ∧ ((0 ≤ w32 (x3 + 7) ∧ w32 (x3 + 7) < Ln) ∧ (∃ T : Option AV → AS → Prop, am_M Ln d 146 [vR 82, vI (s21 0 (w32 (x3 + 1))), vI (s21 0 (w32 (x3 + 2))), vI (s21 0 (w32 (x3 + 3))), vI 0, vI (s21 0 (w32 (x3 + 5))), vI (s21 0 (w32 (x3 + 6))), vI (s21 0 (w32 (x3 + 7)))] s21 T ∧ ∀ (r24 : Int) s23, T (some (vI r24)) s23 →
          (r22 = r24 →
            am_E Ln d 0 18 [vR 0, vR 1, vR 82, vI (w32 (x3 + 8))] [] s23 Q) ∧
          (¬ (r22 = r24) →
            am_b 0 ∧ Q (some (vI 0)) s23))))) ∧
        (¬ (s21 0 (w32 (x3 + 4)) = 0) →
          (0 ≤ w32 (x3 + 5) ∧ w32 (x3 + 5) < Ln) ∧ ((0 ≤ w32 (x3 + 6) ∧ w32 (x3 + 6) < Ln) ∧ ((0 ≤ w32 (x3 + 7) ∧ w32 (x3 + 7) < Ln) ∧ (∃ T : Option AV → AS → Prop, am_M Ln d 146 [vR 82, vI (s21 0 (w32 (x3 + 1))), vI (s21 0 (w32 (x3 + 2))), vI (s21 0 (w32 (x3 + 3))), vI 1, vI (s21 0 (w32 (x3 + 5))), vI (s21 0 (w32 (x3 + 6))), vI (s21 0 (w32 (x3 + 7)))] s21 T ∧ ∀ (r26 : Int) s25, T (some (vI r26)) s25 →
          (r22 = r26 →
            am_E Ln d 0 18 [vR 0, vR 1, vR 82, vI (w32 (x3 + 8))] [] s25 Q) ∧
          (¬ (r22 = r26) →
            am_b 0 ∧ Q (some (vI 0)) s25))))))))))))) ∧
      (¬ (σ 0 (w32 (x3 + 4)) = 0) →
        (0 ≤ w32 (x3 + 5) ∧ w32 (x3 + 5) < Ln) ∧ ((0 ≤ w32 (x3 + 6) ∧ w32 (x3 + 6) < Ln) ∧ ((0 ≤ w32 (x3 + 7) ∧ w32 (x3 + 7) < Ln) ∧ (∃ T : Option AV → AS → Prop, am_M Ln d 97 [vR 1, vI (σ 0 (w32 (x3 + 1))), vI (σ 0 (w32 (x3 + 2))), vI (σ 0 (w32 (x3 + 3))), vI 1, vI (σ 0 (w32 (x3 + 5))), vI (σ 0 (w32 (x3 + 6))), vI (σ 0 (w32 (x3 + 7)))] σ T ∧ ∀ (r28 : Int) s27, T (some (vI r28)) s27 →
        (0 ≤ w32 (x3 + 1) ∧ w32 (x3 + 1) < Ln) ∧ ((0 ≤ w32 (x3 + 2) ∧ w32 (x3 + 2) < Ln) ∧ ((0 ≤ w32 (x3 + 3) ∧ w32 (x3 + 3) < Ln) ∧ ((0 ≤ w32 (x3 + 4) ∧ w32 (x3 + 4) < Ln) ∧ ((s27 0 (w32 (x3 + 4)) = 0 →
          (0 ≤ w32 (x3 + 5) ∧ w32 (x3 + 5) < Ln) ∧ ((0 ≤ w32 (x3 + 6) ∧ w32 (x3 + 6) < Ln) ∧ ((0 ≤ w32 (x3 + 7) ∧ w32 (x3 + 7) < Ln) ∧ (∃ T : Option AV → AS → Prop, am_M Ln d 146 [vR 82, vI (s27 0 (w32 (x3 + 1))), vI (s27 0 (w32 (x3 + 2))), vI (s27 0 (w32 (x3 + 3))), vI 0, vI (s27 0 (w32 (x3 + 5))), vI (s27 0 (w32 (x3 + 6))), vI (s27 0 (w32 (x3 + 7)))] s27 T ∧ ∀ (r30 : Int) s29, T (some (vI r30)) s29 →
          (r28 = r30 →
            am_E Ln d 0 18 [vR 0, vR 1, vR 82, vI (w32 (x3 + 8))] [] s29 Q) ∧
          (¬ (r28 = r30) →
            am_b 0 ∧ Q (some (vI 0)) s29))))) ∧
        (¬ (s27 0 (w32 (x3 + 4)) = 0) →
          (0 ≤ w32 (x3 + 5) ∧ w32 (x3 + 5) < Ln) ∧ ((0 ≤ w32 (x3 + 6) ∧ w32 (x3 + 6) < Ln) ∧ ((0 ≤ w32 (x3 + 7) ∧ w32 (x3 + 7) < Ln) ∧ (∃ T : Option AV → AS → Prop, am_M Ln d 146 [vR 82, vI (s27 0 (w32 (x3 + 1))), vI (s27 0 (w32 (x3 + 2))), vI (s27 0 (w32 (x3 + 3))), vI 1, vI (s27 0 (w32 (x3 + 5))), vI (s27 0 (w32 (x3 + 6))), vI (s27 0 (w32 (x3 + 7)))] s27 T ∧ ∀ (r32 : Int) s31, T (some (vI r32)) s31 →
          (r28 = r32 →
            am_E Ln d 0 18 [vR 0, vR 1, vR 82, vI (w32 (x3 + 8))] [] s31 Q) ∧
          (¬ (r28 = r32) →
            am_b 0 ∧ Q (some (vI 0)) s31)))))))))))))))))) ∧
    (bAnd (σ 0 x3) 31 = 0 + 1 + 1 + 1 + 1 + 1 + 1 →
      (0 ≤ w32 (x3 + 1) ∧ w32 (x3 + 1) < Ln) ∧ ((σ 0 (w32 (x3 + 1)) = 0 →
        (0 ≤ w32 (x3 + 2) ∧ w32 (x3 + 2) < Ln) ∧ ((0 ≤ w32 (x3 + 3) ∧ w32 (x3 + 3) < Ln) ∧ ((0 ≤ w32 (x3 + 4) ∧ w32 (x3 + 4) < Ln) ∧ ((0 ≤ w32 (x3 + 5) ∧ w32 (x3 + 5) < Ln) ∧ ((0 ≤ w32 (x3 + 6) ∧ w32 (x3 + 6) < Ln) ∧ ((0 ≤ w32 (x3 + 7) ∧ w32 (x3 + 7) < Ln) ∧ (∃ T : Option AV → AS → Prop, am_M Ln d 98 [vR 1, vI 0, vI (σ 0 (w32 (x3 + 2))), vI (σ 0 (w32 (x3 + 3))), vI (σ 0 (w32 (x3 + 4))), vI (σ 0 (w32 (x3 + 5))), vI (σ 0 (w32 (x3 + 6))), vI (σ 0 (w32 (x3 + 7)))] σ T ∧ ∀ (r34 : Int) s33, T (some (vI r34)) s33 →
        (0 ≤ w32 (x3 + 1) ∧ w32 (x3 + 1) < Ln) ∧ ((s33 0 (w32 (x3 + 1)) = 0 →
          (0 ≤ w32 (x3 + 2) ∧ w32 (x3 + 2) < Ln) ∧ ((0 ≤ w32 (x3 + 3) ∧ w32 (x3 + 3) < Ln) ∧ ((0 ≤ w32 (x3 + 4) ∧ w32 (x3 + 4) < Ln) ∧ ((0 ≤ w32 (x3 + 5) ∧ w32 (x3 + 5) < Ln) ∧ ((0 ≤ w32 (x3 + 6) ∧ w32 (x3 + 6) < Ln) ∧ ((0 ≤ w32 (x3 + 7) ∧ w32 (x3 + 7) < Ln) ∧ (∃ T : Option AV → AS → Prop, am_M Ln d 147 [vR 82, vI 0, vI (s33 0 (w32 (x3 + 2))), vI (s33 0 (w32 (x3 + 3))), vI (s33 0 (w32 (x3 + 4))), vI (s33 0 (w32 (x3 + 5))), vI (s33 0 (w32 (x3 + 6))), vI (s33 0 (w32 (x3 + 7)))] s33 T ∧ ∀ (r36 : Int) s35, T (some (vI r36)) s35 →
          (r34 = r36 →
            am_E Ln d 0 18 [vR 0, vR 1, vR 82, vI (w32 (x3 + 8))] [] s35 Q) ∧
          (¬ (r34 = r36) →
            am_b 0 ∧ Q (some (vI 0)) s35)))))))) ∧
        (¬ (s33 0 (w32 (x3 + 1)) = 0) →
          (0 ≤ w32 (x3 + 2) ∧ w32 (x3 + 2) < Ln) ∧ ((0 ≤ w32 (x3 + 3) ∧ w32 (x3 + 3) < Ln) ∧ ((0 ≤ w32 (x3 + 4) ∧ w32 (x3 + 4) < Ln) ∧ ((0 ≤ w32 (x3 + 5) ∧ w32 (x3 + 5) < Ln) ∧ ((0 ≤ w32 (x3 + 6) ∧ w32 (x3 + 6) < Ln) ∧ ((0 ≤ w32 (x3 + 7) ∧ w32 (x3 + 7) < Ln) ∧ (∃ T : Option AV → AS → Prop, am_M Ln d 147 [vR 82, vI 1, vI (s33 0 (w32 (x3 + 2))), vI (s33 0 (w32 (x3 + 3))), vI (s33 0 (w32 (x3 + 4))), vI (s33 0 (w32 (x3 + 5))), vI (s33 0 (w32 (x3 + 6))), vI (s33 0 (w32 (x3 + 7)))] s33 T ∧ ∀ (r38 : Int) s37, T (some (vI r38)) s37 →
          (r34 = r38 →
            am_E Ln d 0 18 [vR 0, vR 1, vR 82, vI (w32 (x3 + 8))] [] s37 Q) ∧
          (¬ (r34 = r38) →
            am_b 0 ∧ Q (some (vI 0)) s37)))))))))))))))) ∧
      (¬ (σ 0 (w32 (x3 + 1)) = 0) →
        (0 ≤ w32 (x3 + 2) ∧ w32 (x3 + 2) < Ln) ∧ ((0 ≤ w32 (x3 + 3) ∧ w32 (x3 + 3) < Ln) ∧ ((0 ≤ w32 (x3 + 4) ∧ w32 (x3 + 4) < Ln) ∧ ((0 ≤ w32 (x3 + 5) ∧ w32 (x3 + 5) < Ln) ∧ ((0 ≤ w32 (x3 + 6) ∧ w32 (x3 + 6) < Ln) ∧ ((0 ≤ w32 (x3 + 7) ∧ w32 (x3 + 7) < Ln) ∧ (∃ T : Option AV → AS → Prop, am_M Ln d 98 [vR 1, vI 1, vI (σ 0 (w32 (x3 + 2))), vI (σ 0 (w32 (x3 + 3))), vI (σ 0 (w32 (x3 + 4))), vI (σ 0 (w32 (x3 + 5))), vI (σ 0 (w32 (x3 + 6))), vI (σ 0 (w32 (x3 + 7)))] σ T ∧ ∀ (r40 : Int) s39, T (some (vI r40)) s39 →
        (0 ≤ w32 (x3 + 1) ∧ w32 (x3 + 1) < Ln) ∧ ((s39 0 (w32 (x3 + 1)) = 0 →
          (0 ≤ w32 (x3 + 2) ∧ w32 (x3 + 2) < Ln) ∧ ((0 ≤ w32 (x3 + 3) ∧ w32 (x3 + 3) < Ln) ∧ ((0 ≤ w32 (x3 + 4) ∧ w32 (x3 + 4) < Ln) ∧ ((0 ≤ w32 (x3 + 5) ∧ w32 (x3 + 5) < Ln) ∧ ((0 ≤ w32 (x3 + 6) ∧ w32 (x3 + 6) < Ln) ∧ ((0 ≤ w32 (x3 + 7) ∧ w32 (x3 + 7) < Ln) ∧ (∃ T : Option AV → AS → Prop, am_M Ln d 147 [vR 82, vI 0, vI (s39 0 (w32 (x3 + 2))), vI (s39 0 (w32 (x3 + 3))), vI (s39 0 (w32 (x3 + 4))), vI (s39 0 (w32 (x3 + 5))), vI (s39 0 (w32 (x3 + 6))), vI (s39 0 (w32 (x3 + 7)))] s39 T ∧ ∀ (r42 : Int) s41, T (some (vI r42)) s41 →
          (r40 = r42 →
            am_E Ln d 0 18 [vR 0, vR 1, vR 82, vI (w32 (x3 + 8))] [] s41 Q) ∧
          (¬ (r40 = r42) →
            am_b 0 ∧ Q (some (vI 0)) s41)))))))) ∧
        (¬ (s39 0 (w32 (x3 + 1)) = 0) →
          (0 ≤ w32 (x3 + 2) ∧ w32 (x3 + 2) < Ln) ∧ ((0 ≤ w32 (x3 + 3) ∧ w32 (x3 + 3) < Ln) ∧ ((0 ≤ w32 (x3 + 4) ∧ w32 (x3 + 4) < Ln) ∧ ((0 ≤ w32 (x3 + 5) ∧ w32 (x3 + 5) < Ln) ∧ ((0 ≤ w32 (x3 + 6) ∧ w32 (x3 + 6) < Ln) ∧ ((0 ≤ w32 (x3 + 7) ∧ w32 (x3 + 7) < Ln) ∧ (∃ T : Option AV → AS → Prop, am_M Ln d 147 [vR 82, vI 1, vI (s39 0 (w32 (x3 + 2))), vI (s39 0 (w32 (x3 + 3))), vI (s39 0 (w32 (x3 + 4))), vI (s39 0 (w32 (x3 + 5))), vI (s39 0 (w32 (x3 + 6))), vI (s39 0 (w32 (x3 + 7)))] s39 T ∧ ∀ (r44 : Int) s43, T (some (vI r44)) s43 →
          (r40 = r44 →
            am_E Ln d 0 18 [vR 0, vR 1, vR 82, vI (w32 (x3 + 8))] [] s43 Q) ∧
          (¬ (r40 = r44) →
            am_b 0 ∧ Q (some (vI 0)) s43)))))))))))))))))) ∧
    (bAnd (σ 0 x3) 31 = 0 + 1 + 1 + 1 + 1 + 1 + 1 + 1 →
      (0 ≤ w32 (x3 + 1) ∧ w32 (x3 + 1) < Ln) ∧ (∃ T : Option AV → AS → Prop, am_M Ln d 99 [vR 1, vI (σ 0 (w32 (x3 + 1)))] σ T ∧ ∀ (r46 : Int) s45, T (some (vI r46)) s45 →
      (0 ≤ w32 (x3 + 1) ∧ w32 (x3 + 1) < Ln) ∧ (∃ T : Option AV → AS → Prop, am_M Ln d 149 [vR 82, vI (s45 0 (w32 (x3 + 1)))] s45 T ∧ ∀ (r48 : Int) s47, T (some (vI r48)) s47 →
      (r46 = r48 →
        am_E Ln d 0 18 [vR 0, vR 1, vR 82, vI (w32 (x3 + 8))] [] s47 Q) ∧
      (¬ (r46 = r48) →
        am_b 0 ∧ Q (some (vI 0)) s47)))) ∧
    (bAnd (σ 0 x3) 31 = 0 + 1 + 1 + 1 + 1 + 1 + 1 + 1 + 1 →
      (0 ≤ w32 (x3 + 1) ∧ w32 (x3 + 1) < Ln) ∧ ((0 ≤ w32 (x3 + 2) ∧ w32 (x3 + 2) < Ln) ∧ ((0 ≤ w32 (x3 + 3) ∧ w32 (x3 + 3) < Ln) ∧ ((0 ≤ w32 (x3 + 4) ∧ w32 (x3 + 4) < Ln) ∧ ((0 ≤ w32 (x3 + 5) ∧ w32 (x3 + 5) < Ln) ∧ (∃ T : Option AV → AS → Prop, am_M Ln d 100 [vR 1, vI (σ 0 (w32 (x3 + 1))), vI (σ 0 (w32 (x3 + 2))), vI (σ 0 (w32 (x3 + 3))), vI (σ 0 (w32 (x3 + 4))), vI (σ 0 (w32 (x3 + 5)))] σ T ∧ ∀ (r50 : Int) s49, T (some (vI r50)) s49 →
      (0 ≤ w32 (x3 + 1) ∧ w32 (x3 + 1) < Ln) ∧ ((0 ≤ w32 (x3 + 2) ∧ w32 (x3 + 2) < Ln) ∧ ((0 ≤ w32 (x3 + 3) ∧ w32 (x3 + 3) < Ln) ∧ ((0 ≤ w32 (x3 + 4) ∧ w32 (x3 + 4) < Ln) ∧ ((0 ≤ w32 (x3 + 5) ∧ w32 (x3 + 5) < Ln) ∧ (∃ T : Option AV → AS → Prop, am_M Ln d 151 [vR 82, vI (s49 0 (w32 (x3 + 1))), vI (s49 0 (w32 (x3 + 2))), vI (s49 0 (w32 (x3 + 3))), vI (s49 0 (w32 (x3 + 4))), vI (s49 0 (w32 (x3 + 5)))] s49 T ∧ ∀ (r52 : Int) s51, T (some (vI r52)) s51 →
      (r50 = r52 →
        am_E Ln d 0 18 [vR 0, vR 1, vR 82, vI (w32 (x3 + 8))] [] s51 Q) ∧
      (¬ (r50 = r52) →
        am_b 0 ∧ Q (some (vI 0)) s51)))))))))))) ∧
    (bAnd (σ 0 x3) 31 = 0 + 1 + 1 + 1 + 1 + 1 + 1 + 1 + 1 + 1 →
      (0 ≤ w32 (x3 + 1) ∧ w32 (x3 + 1) < Ln) ∧ ((0 ≤ w32 (x3 + 2) ∧ w32 (x3 + 2) < Ln) ∧ ((0 ≤ w32 (x3 + 3) ∧ w32 (x3 + 3) < Ln) ∧ ((0 ≤ w32 (x3 + 4) ∧ w32 (x3 + 4) < Ln) ∧ (∃ T : Option AV → AS → Prop, am_M Ln d 101 [vR 1, vI (σ 0 (w32 (x3 + 1))), vI (σ 0 (w32 (x3 + 2))), vI (σ 0 (w32 (x3 + 3))), vI (σ 0 (w32 (x3 + 4)))] σ T ∧ ∀ (r54 : Int) s53, T (some (vI r54)) s53 →
      (0 ≤ w32 (x3 + 1) ∧ w32 (x3 + 1) < Ln) ∧ ((0 ≤ w32 (x3 + 2) ∧ w32 (x3 + 2) < Ln) ∧ ((0 ≤ w32 (x3 + 3) ∧ w32 (x3 + 3) < Ln) ∧ ((0 ≤ w32 (x3 + 4) ∧ w32 (x3 + 4) < Ln) ∧ (∃ T : Option AV → AS → Prop, am_M Ln d 175 [vR 82, vI (s53 0 (w32 (x3 + 1))), vI (s53 0 (w32 (x3 + 2))), vI (s53 0 (w32 (x3 + 3))), vI (s53 0 (w32 (x3 + 4)))] s53 T ∧ ∀ (r56 : Int) s55, T (some (vI r56)) s55 →
      (r54 = r56 →
        am_E Ln d 0 18 [vR 0, vR 1, vR 82, vI (w32 (x3 + 8))] [] s55 Q) ∧
      (¬ (r54 = r56) →
        am_b 0 ∧ Q (some (vI 0)) s55)))))))))) ∧
    (bAnd (σ 0 x3) 31 = 0 + 1 + 1 + 1 + 1 + 1 + 1 + 1 + 1 + 1 + 1 →
      (0 ≤ w32 (x3 + 1) ∧ w32 (x3 + 1) < Ln) ∧ ((0 ≤ w32 (x3 + 2) ∧ w32 (x3 + 2) < Ln) ∧ ((0 ≤ w32 (x3 + 3) ∧ w32 (x3 + 3) < Ln) ∧ (∃ T : Option AV → AS → Prop, am_M Ln d 102 [vR 1, vI (σ 0 (w32 (x3 + 1))), vI (σ 0 (w32 (x3 + 2))), vI (σ 0 (w32 (x3 + 3)))] σ T ∧ ∀ (r58 : Int) s57, T (some (vI r58)) s57 →
      (0 ≤ w32 (x3 + 1) ∧ w32 (x3 + 1) < Ln) ∧ ((0 ≤ w32 (x3 + 2) ∧ w32 (x3 + 2) < Ln) ∧ ((0 ≤ w32 (x3 + 3) ∧ w32 (x3 + 3) < Ln) ∧ (∃ T : Option AV → AS → Prop, am_M Ln d 176 [vR 82, vI (s57 0 (w32 (x3 + 1))), vI (s57 0 (w32 (x3 + 2))), vI (s57 0 (w32 (x3 + 3)))] s57 T ∧ ∀ (r60 : Int) s59, T (some (vI r60)) s59 →
      (r58 = r60 →
        am_E Ln d 0 18 [vR 0, vR 1, vR 82, vI (w32 (x3 + 8))] [] s59 Q) ∧
      (¬ (r58 = r60) →
        am_b 0 ∧ Q (some (vI 0)) s59)))))))) ∧
    (bAnd (σ 0 x3) 31 = 0 + 1 + 1 + 1 + 1 + 1 + 1 + 1 + 1 + 1 + 1 + 1 →
      (0 ≤ w32 (x3 + 1) ∧ w32 (x3 + 1) < Ln) ∧ ((0 ≤ w32 (x3 + 2) ∧ w32 (x3 + 2) < Ln) ∧ ((0 ≤ w32 (x3 + 3) ∧ w32 (x3 + 3) < Ln) ∧ ((0 ≤ w32 (x3 + 4) ∧ w32 (x3 + 4) < Ln) ∧ (∃ T : Option AV → AS → Prop, am_M Ln d 103 [vR 1, vI (σ 0 (w32 (x3 + 1))), vI (σ 0 (w32 (x3 + 2))), vI (σ 0 (w32 (x3 + 3))), vI (σ 0 (w32 (x3 + 4)))] σ T ∧ ∀ (r62 : Int) s61, T (some (vI r62)) s61 →
      (0 ≤ w32 (x3 + 1) ∧ w32 (x3 + 1) < Ln) ∧ ((0 ≤ w32 (x3 + 2) ∧ w32 (x3 + 2) < Ln) ∧ ((0 ≤ w32 (x3 + 3) ∧ w32 (x3 + 3) < Ln) ∧ ((0 ≤ w32 (x3 + 4) ∧ w32 (x3 + 4) < Ln) ∧ (∃ T : Option AV → AS → Prop, am_M Ln d 208 [vR 82, vI (s61 0 (w32 (x3 + 1))), vI (s61 0 (w32 (x3 + 2))), vI (s61 0 (w32 (x3 + 3))), vI (s61 0 (w32 (x3 + 4)))] s61 T ∧ ∀ (r64 : Int) s63, T (some (vI r64)) s63 →
      (r62 = r64 →
        am_E Ln d 0 18 [vR 0, vR 1, vR 82, vI (w32 (x3 + 8))] [] s63 Q) ∧
      (¬ (r62 = r64) →
        am_b 0 ∧ Q (some (vI 0)) s63)))))))))) ∧
    (bAnd (σ 0 x3) 31 = 0 + 1 + 1 + 1 + 1 + 1 + 1 + 1 + 1 + 1 + 1 + 1 + 1 →
      (0 ≤ w32 (x3 + 1) ∧ w32 (x3 + 1) < Ln) ∧ ((0 ≤ w32 (x3 + 2) ∧ w32 (x3 + 2) < Ln) ∧ ((0 ≤ w32 (x3 + 3) ∧ w32 (x3 + 3) < Ln) ∧ ((0 ≤ w32 (x3 + 4) ∧ w32 (x3 + 4) < Ln) ∧ (∃ T : Option AV → AS → Prop, am_M Ln d 104 [vR 1, vI (σ 0 (w32 (x3 + 1))), vI (σ 0 (w32 (x3 + 2))), vI (σ 0 (w32 (x3 + 3))), vI (σ 0 (w32 (x3 + 4)))] σ T ∧ ∀ (r66 : Int) s65, T (some (vI r66)) s65 →
      (0 ≤ w32 (x3 + 1) ∧ w32 (x3 + 1) < Ln) ∧ ((0 ≤ w32 (x3 + 2) ∧ w32 (x3 + 2) < Ln) ∧ ((0 ≤ w32 (x3 + 3) ∧ w32 (x3 + 3) < Ln) ∧ ((0 ≤ w32 (x3 + 4) ∧ w32 (x3 + 4) < Ln) ∧ (∃ T : Option AV → AS → Prop, am_M Ln d 209 [vR 82, vI (s65 0 (w32 (x3 + 1))), vI (s65 0 (w32 (x3 + 2))), vI (s65 0 (w32 (x3 + 3))), vI (s65 0 (w32 (x3 + 4)))] s65 T ∧ ∀ (r68 : Int) s67, T (some (vI r68)) s67 →
      (r66 = r68 →
        am_E Ln d 0 18 [vR 0, vR 1, vR 82, vI (w32 (x3 + 8))] [] s67 Q) ∧
      (¬ (r66 = r68) →
        am_b 0 ∧ Q (some (vI 0)) s67)))))))))) ∧
    (bAnd (σ 0 x3) 31 = 0 + 1 + 1 + 1 + 1 + 1 + 1 + 1 + 1 + 1 + 1 + 1 + 1 + 1 →
      (0 ≤ w32 (x3 + 1) ∧ w32 (x3 + 1) < Ln) ∧ ((0 ≤ w32 (x3 + 2) ∧ w32 (x3 + 2) < Ln) ∧ ((0 ≤ w32 (x3 + 3) ∧ w32 (x3 + 3) < Ln) ∧ ((0 ≤ w32 (x3 + 4) ∧ w32 (x3 + 4) < Ln) ∧ (∃ T : Option AV → AS → Prop, am_M Ln d 105 [vR 1, vI (σ 0 (w32 (x3 + 1))), vI (σ 0 (w32 (x3 + 2))), vI (σ 0 (w32 (x3 + 3))), vI (σ 0 (w32 (x3 + 4)))] σ T ∧ ∀ (r70 : Int) s69, T (some (vI r70)) s69 →
      (0 ≤ w32 (x3 + 1) ∧ w32 (x3 + 1) < Ln) ∧ ((0 ≤ w32 (x3 + 2) ∧ w32 (x3 + 2) < Ln) ∧ ((0 ≤ w32 (x3 + 3) ∧ w32 (x3 + 3) < Ln) ∧ ((0 ≤ w32 (x3 + 4) ∧ w32 (x3 + 4) < Ln) ∧ (∃ T : Option AV → AS → Prop, am_M Ln d 210 [vR 82, vI (s69 0 (w32 (x3 + 1))), vI (s69 0 (w32 (x3 + 2))), vI (s69 0 (w32 (x3 + 3))), vI (s69 0 (w32 (x3 + 4)))] s69 T ∧ ∀ (r72 : Int) s71, T (some (vI r72)) s71 →
      (r70 = r72 →
        am_E Ln d 0 18 [vR 0, vR 1, vR 82, vI (w32 (x3 + 8))] [] s71 Q) ∧
      (¬ (r70 = r72) →
        am_b 0 ∧ Q (some (vI 0)) s71)))))))))) ∧
    (bAnd (σ 0 x3) 31 = 0 + 1 + 1 + 1 + 1 + 1 + 1 + 1 + 1 + 1 + 1 + 1 + 1 + 1 + 1 →
      (0 ≤ w32 (x3 + 1) ∧ w32 (x3 + 1) < Ln) ∧ ((0 ≤ w32 (x3 + 2) ∧ w32 (x3 + 2) < Ln) ∧ ((0 ≤ w32 (x3 + 3) ∧ w32 (x3 + 3) < Ln) ∧ (∃ T : Option AV → AS → Prop, am_M Ln d 106 [vR 1, vI (σ 0 (w32 (x3 + 1))), vI (σ 0 (w32 (x3 + 2))), vI (σ 0 (w32 (x3 + 3)))] σ T ∧ ∀ (r74 : Int) s73, T (some (vI r74)) s73 →
      (0 ≤ w32 (x3 + 1) ∧ w32 (x3 + 1) < Ln) ∧ ((0 ≤ w32 (x3 + 2) ∧ w32 (x3 + 2) < Ln) ∧ ((0 ≤ w32 (x3 + 3) ∧ w32 (x3 + 3) < Ln) ∧ (∃ T : Option AV → AS → Prop, am_M Ln d 211 [vR 82, vI (s73 0 (w32 (x3 + 1))), vI (s73 0 (w32 (x3 + 2))), vI (s73 0 (w32 (x3 + 3)))] s73 T ∧ ∀ (r76 : Int) s75, T (some (vI r76)) s75 →
      (r74 = r76 →
        am_E Ln d 0 18 [vR 0, vR 1, vR 82, vI (w32 (x3 + 8))] [] s75 Q) ∧
      (¬ (r74 = r76) →
        am_b 0 ∧ Q (some (vI 0)) s75)))))))) ∧
    (bAnd (σ 0 x3) 31 = 0 + 1 + 1 + 1 + 1 + 1 + 1 + 1 + 1 + 1 + 1 + 1 + 1 + 1 + 1 + 1 →
      (0 ≤ w32 (x3 + 1) ∧ w32 (x3 + 1) < Ln) ∧ ((0 ≤ w32 (x3 + 2) ∧ w32 (x3 + 2) < Ln) ∧ ((0 ≤ w32 (x3 + 3) ∧ w32 (x3 + 3) < Ln) ∧ (∃ T : Option AV → AS → Prop, am_M Ln d 107 [vR 1, vI (σ 0 (w32 (x3 + 1))), vI (σ 0 (w32 (x3 + 2))), vI (σ 0 (w32 (x3 + 3)))] σ T ∧ ∀ (r78 : Int) s77, T (some (vI r78)) s77 →
      (0 ≤ w32 (x3 + 1) ∧ w32 (x3 + 1) < Ln) ∧ ((0 ≤ w32 (x3 + 2) ∧ w32 (x3 + 2) < Ln) ∧ ((0 ≤ w32 (x3 + 3) ∧ w32 (x3 + 3) < Ln) ∧ (∃ T : Option AV → AS → Prop, am_M Ln d 214 [vR 82, vI (s77 0 (w32 (x3 + 1))), vI (s77 0 (w32 (x3 + 2))), vI (s77 0 (w32 (x3 + 3)))] s77 T ∧ ∀ (r80 : Int) s79, T (some (vI r80)) s79 →
      (r78 = r80 →
        am_E Ln d 0 18 [vR 0, vR 1, vR 82, vI (w32 (x3 + 8))] [] s79 Q) ∧
      (¬ (r78 = r80) →
        am_b 0 ∧ Q (some (vI 0)) s79)))))))) ∧
    (bAnd (σ 0 x3) 31 = 0 + 1 + 1 + 1 + 1 + 1 + 1 + 1 + 1 + 1 + 1 + 1 + 1 + 1 + 1 + 1 + 1 →
      (0 ≤ w32 (x3 + 1) ∧ w32 (x3 + 1) < Ln) ∧ ((0 ≤ w32 (x3 + 2) ∧ w32 (x3 + 2) < Ln) ∧ (∃ T : Option AV → AS → Prop, am_M Ln d 108 [vR 1, vI (σ 0 (w32 (x3 + 1))), vI (σ 0 (w32 (x3 + 2)))] σ T ∧ ∀ (r82 : Int) s81, T (some (vI r82)) s81 →
      (0 ≤ w32 (x3 + 1) ∧ w32 (x3 + 1) < Ln) ∧ ((0 ≤ w32 (x3 + 2) ∧ w32 (x3 + 2) < Ln) ∧ (∃ T : Option AV → AS → Prop, am_M Ln d 215 [vR 82, vI (s81 0 (w32 (x3 + 1))), vI (s81 0 (w32 (x3 + 2)))] s81 T ∧ ∀ (r84 : Int) s83, T (some (vI r84)) s83 →
      (r82 = r84 →
        am_E Ln d 0 18 [vR 0, vR 1, vR 82, vI (w32 (x3 + 8))] [] s83 Q) ∧
      (¬ (r82 = r84) →
        am_b 0 ∧ Q (some (vI 0)) s83)))))) ∧
    (bAnd (σ 0 x3) 31 = 0 + 1 + 1 + 1 + 1 + 1 + 1 + 1 + 1 + 1 + 1 + 1 + 1 + 1 + 1 + 1 + 1 + 1 →
      (0 ≤ w32 (x3 + 1) ∧ w32 (x3 + 1) < Ln) ∧ (∃ T : Option AV → AS → Prop, am_M Ln d 109 [vR 1, vI (σ 0 (w32 (x3 + 1)))] σ T ∧ ∀ (r86 : Int) s85, T (some (vI r86)) s85 →
      (0 ≤ w32 (x3 + 1) ∧ w32 (x3 + 1) < Ln) ∧ (∃ T : Option AV → AS → Prop, am_M Ln d 216 [vR 82, vI (s85 0 (w32 (x3 + 1)))] s85 T ∧ ∀ (r88 : Int) s87, T (some (vI r88)) s87 →
      (r86 = r88 →
        am_E Ln d 0 18 [vR 0, vR 1, vR 82, vI (w32 (x3 + 8))] [] s87 Q) ∧
      (¬ (r86 = r88) →
        am_b 0 ∧ Q (some (vI 0)) s87)))) ∧
    (bAnd (σ 0 x3) 31 = 0 + 1 + 1 + 1 + 1 + 1 + 1 + 1 + 1 + 1 + 1 + 1 + 1 + 1 + 1 + 1 + 1 + 1 + 1 →
      (0 ≤ w32 (x3 + 1) ∧ w32 (x3 + 1) < Ln) ∧ ((0 ≤ w32 (x3 + 2) ∧ w32 (x3 + 2) < Ln) ∧ ((0 ≤ w32 (x3 + 3) ∧ w32 (x3 + 3) < Ln) ∧ ((0 ≤ w32 (x3 + 4) ∧ w32 (x3 + 4) < Ln) ∧ (∃ T : Option AV → AS → Prop, am_M Ln d 110 [vR 1, vI (σ 0 (w32 (x3 + 1))), vI (σ 0 (w32 (x3 + 2))), vI (σ 0 (w32 (x3 + 3))), vI (σ 0 (w32 (x3 + 4)))] σ T ∧ ∀ (r90 : Int) s89, T (some (vI r90)) s89 →
      (0 ≤ w32 (x3 + 1) ∧ w32 (x3 + 1) < Ln) ∧ ((0 ≤ w32 (x3 + 2) ∧ w32 (x3 + 2) < Ln) ∧ ((0 ≤ w32 (x3 + 3) ∧ w32 (x3 + 3) < Ln) ∧ ((0 ≤ w32 (x3 + 4) ∧ w32 (x3 + 4) < Ln) ∧ (∃ T : Option AV → AS → Prop, am_M Ln d 220 [vR 82, vI (s89 0 (w32 (x3 + 1))), vI (s89 0 (w32 (x3 + 2))), vI (s89 0 (w32 (x3 + 3))), vI (s89 0 (w32 (x3 + 4)))] s89 T ∧ ∀ (r92 : Int) s91, T (some (vI r92)) s91 →
      (r90 = r92 →
        am_E Ln d 0 18 [vR 0, vR 1, vR 82, vI (w32 (x3 + 8))] [] s91 Q) ∧
      (¬ (r90 = r92) →
        am_b 0 ∧ Q (some (vI 0)) s91)))))))))) ∧
    (bAnd (σ 0 x3) 31 = 0 + 1 + 1 + 1 + 1 + 1 + 1 + 1 + 1 + 1 + 1 + 1 + 1 + 1 + 1 + 1 + 1 + 1 + 1 + 1 →
      (0 ≤ w32 (x3 + 1) ∧ w32 (x3 + 1) < Ln) ∧ ((0 ≤ w32 (x3 + 2) ∧ w32 (x3 + 2) < Ln) ∧ ((0 ≤ w32 (x3 + 3) ∧ w32 (x3 + 3) < Ln) ∧ ((0 ≤ w32 (x3 + 4) ∧ w32 (x3 + 4) < Ln) ∧ (∃ T : Option AV → AS → Prop, am_M Ln d 111 [vR 1, vI (σ 0 (w32 (x3 + 1))), vI (σ 0 (w32 (x3 + 2))), vI (σ 0 (w32 (x3 + 3))), vI (σ 0 (w32 (x3 + 4)))] σ T ∧ ∀ (r94 : Int) s93, T (some (vI r94)) s93 →
      (0 ≤ w32 (x3 + 1) ∧ w32 (x3 + 1) < Ln) ∧ ((0 ≤ w32 (x3 + 2) ∧ w32 (x3 + 2) < Ln) ∧ ((0 ≤ w32 (x3 + 3) ∧ w32 (x3 + 3) < Ln) ∧ ((0 ≤ w32 (x3 + 4) ∧ w32 (x3 + 4) < Ln) ∧ (∃ T : Option AV → AS → Prop, am_M Ln d 222 [vR 82, vI (s93 0 (w32 (x3 + 1))), vI (s93 0 (w32 (x3 + 2))), vI (s93 0 (w32 (x3 + 3))), vI (s93 0 (w32 (x3 + 4)))] s93 T ∧ ∀ (r96 : Int) s95, T (some (vI r96)) s95 →
      (r94 = r96 →
        am_E Ln d 0 18 [vR 0, vR 1, vR 82, vI (w32 (x3 + 8))] [] s95 Q) ∧
      (¬ (r94 = r96) →
        am_b 0 ∧ Q (some (vI 0)) s95)))))))))) ∧
    (bAnd (σ 0 x3) 31 = 0 + 1 + 1 + 1 + 1 + 1 + 1 + 1 + 1 + 1 + 1 + 1 + 1 + 1 + 1 + 1 + 1 + 1 + 1 + 1 + 1 →
      (0 ≤ w32 (x3 + 1) ∧ w32 (x3 + 1) < Ln) ∧ ((0 ≤ w32 (x3 + 2) ∧ w32 (x3 + 2) < Ln) ∧ (∃ T : Option AV → AS → Prop, am_M Ln d 112 [vR 1, vI (σ 0 (w32 (x3 + 1))), vI (σ 0 (w32 (x3 + 2)))] σ T ∧ ∀ (r98 : Int) s97, T (some (vI r98)) s97 →
      (0 ≤ w32 (x3 + 1) ∧ w32 (x3 + 1) < Ln) ∧ ((0 ≤ w32 (x3 + 2) ∧ w32 (x3 + 2) < Ln) ∧ (∃ T : Option AV → AS → Prop, am_M Ln d 224 [vR 82, vI (s97 0 (w32 (x3 + 1))), vI (s97 0 (w32 (x3 + 2)))] s97 T ∧ ∀ (r100 : Int) s99, T (some (vI r100)) s99 →
      (r98 = r100 →
        am_E Ln d 0 18 [vR 0, vR 1, vR 82, vI (w32 (x3 + 8))] [] s99 Q) ∧
      (¬ (r98 = r100) →
        am_b 0 ∧ Q (some (vI 0)) s99)))))) ∧
    (bAnd (σ 0 x3) 31 = 0 + 1 + 1 + 1 + 1 + 1 + 1 + 1 + 1 + 1 + 1 + 1 + 1 + 1 + 1 + 1 + 1 + 1 + 1 + 1 + 1 + 1 →
      (0 ≤ w32 (x3 + 1) ∧ w32 (x3 + 1) < Ln) ∧ ((0 ≤ w32 (x3 + 2) ∧ w32 (x3 + 2) < Ln) ∧ ((0 ≤ w32 (x3 + 3) ∧ w32 (x3 + 3) < Ln) ∧ ((0 ≤ w32 (x3 + 4) ∧ w32 (x3 + 4) < Ln) ∧ (∃ T : Option AV → AS → Prop, am_M Ln d 113 [vR 1, vI (σ 0 (w32 (x3 + 1))), vI (σ 0 (w32 (x3 + 2))), vI (σ 0 (w32 (x3 + 3))), vI (σ 0 (w32 (x3 + 4)))] σ T ∧ ∀ (r102 : Int) s101, T (some (vI r102)) s101 →
      (0 ≤ w32 (x3 + 1) ∧ w32 (x3 + 1) < Ln) ∧ ((0 ≤ w32 (x3 + 2) ∧ w32 (x3 + 2) < Ln) ∧ ((0 ≤ w32 (x3 + 3) ∧ w32 (x3 + 3) < Ln) ∧ ((0 ≤ w32 (x3 + 4) ∧ w32 (x3 + 4) < Ln) ∧ (∃ T : Option AV → AS → Prop, am_M Ln d 226 [vR 82, vI (s101 0 (w32 (x3 + 1))), vI (s101 0 (w32 (x3 + 2))), vI (s101 0 (w32 (x3 + 3))), vI (s101 0 (w32 (x3 + 4)))] s101 T ∧ ∀ (r104 : Int) s103, T (some (vI r104)) s103 →
      (r102 = r104 →
        am_E Ln d 0 18 [vR 0, vR 1, vR 82, vI (w32 (x3 + 8))] [] s103 Q) ∧
      (¬ (r102 = r104) →
        am_b 0 ∧ Q (some (vI 0)) s103)))))))))) ∧
    (bAnd (σ 0 x3) 31 = 0 + 1 + 1 + 1 + 1 + 1 + 1 + 1 + 1 + 1 + 1 + 1 + 1 + 1 + 1 + 1 + 1 + 1 + 1 + 1 + 1 + 1 + 1 →
      (0 ≤ w32 (x3 + 1) ∧ w32 (x3 + 1) < Ln) ∧ (∃ T : Option AV → AS → Prop, am_M Ln d 114 [vR 1, vI (σ 0 (w32 (x3 + 1)))] σ T ∧ ∀ (r106 : Int) s105, T (some (vI r106)) s105 →
      (0 ≤ w32 (x3 + 1) ∧ w32 (x3 + 1) < Ln) ∧ (∃ T : Option AV → AS → Prop, am_M Ln d 234 [vR 82, vI (s105 0 (w32 (x3 + 1)))] s105 T ∧ ∀ (r108 : Int) s107, T (some (vI r108)) s107 →
      (r106 = r108 →
        am_E Ln d 0 18 [vR 0, vR 1, vR 82, vI (w32 (x3 + 8))] [] s107 Q) ∧
      (¬ (r106 = r108) →
        am_b 0 ∧ Q (some (vI 0)) s107)))) ∧
    (bAnd (σ 0 x3) 31 = 0 + 1 + 1 + 1 + 1 + 1 + 1 + 1 + 1 + 1 + 1 + 1 + 1 + 1 + 1 + 1 + 1 + 1 + 1 + 1 + 1 + 1 + 1 + 1 →
      (0 ≤ w32 (x3 + 1) ∧ w32 (x3 + 1) < Ln) ∧ ((0 ≤ w32 (x3 + 2) ∧ w32 (x3 + 2) < Ln) ∧ (∃ T : Option AV → AS → Prop, am_M Ln d 115 [vR 1, vI (σ 0 (w32 (x3 + 1))), vI (σ 0 (w32 (x3 + 2)))] σ T ∧ ∀ (r110 : Int) s109, T (some (vI r110)) s109 →
      (0 ≤ w32 (x3 + 1) ∧ w32 (x3 + 1) < Ln) ∧ ((0 ≤ w32 (x3 + 2) ∧ w32 (x3 + 2) < Ln) ∧ (∃ T : Option AV → AS → Prop, am_M Ln d 235 [vR 82, vI (s109 0 (w32 (x3 + 1))), vI (s109 0 (w32 (x3 + 2)))] s109 T ∧ ∀ (r112 : Int) s111, T (some (vI r112)) s111 →
      (r110 = r112 →
        am_E Ln d 0 18 [vR 0, vR 1, vR 82, vI (w32 (x3 + 8))] [] s111 Q) ∧
      (¬ (r110 = r112) →
        am_b 0 ∧ Q (some (vI 0)) s111)))))) ∧
    (bAnd (σ 0 x3) 31 = 0 + 1 + 1 + 1 + 1 + 1 + 1 + 1 + 1 + 1 + 1 + 1 + 1 + 1 + 1 + 1 + 1 + 1 + 1 + 1 + 1 + 1 + 1 + 1 + 1 →
      (0 ≤ w32 (x3 + 1) ∧ w32 (x3 + 1) < Ln) ∧ ((0 ≤ w32 (x3 + 2) ∧ w32 (x3 + 2) < Ln) ∧ (∃ T : Option AV → AS → Prop, am_M Ln d 116 [vR 1, vI (σ 0 (w32 (x3 + 1))), vI (σ 0 (w32 (x3 + 2)))] σ T ∧ ∀ (r114 : Int) s113, T (some (vI r114)) s113 →
      (0 ≤ w32 (x3 + 1) ∧ w32 (x3 + 1) < Ln) ∧ ((0 ≤ w32 (x3 + 2) ∧ w32 (x3 + 2) < Ln) ∧ (∃ T : Option AV → AS → Prop, am_M Ln d 236 [vR 82, vI (s113 0 (w32 (x3 + 1))), vI (s113 0 (w32 (x3 + 2)))] s113 T ∧ ∀ (r116 : Int) s115, T (some (vI r116)) s115 →
      (r114 = r116 →
        am_E Ln d 0 18 [vR 0, vR 1, vR 82, vI (w32 (x3 + 8))] [] s115 Q) ∧
      (¬ (r114 = r116) →
        am_b 0 ∧ Q (some (vI 0)) s115)))))) ∧
    (bAnd (σ 0 x3) 31 = 0 + 1 + 1 + 1 + 1 + 1 + 1 + 1 + 1 + 1 + 1 + 1 + 1 + 1 + 1 + 1 + 1 + 1 + 1 + 1 + 1 + 1 + 1 + 1 + 1 + 1 →
      (0 ≤ w32 (x3 + 1) ∧ w32 (x3 + 1) < Ln) ∧ ((0 ≤ w32 (x3 + 2) ∧ w32 (x3 + 2) < Ln) ∧ ((0 ≤ w32 (x3 + 3) ∧ w32 (x3 + 3) < Ln) ∧ ((0 ≤ w32 (x3 + 4) ∧ w32 (x3 + 4) < Ln) ∧ (∃ T : Option AV → AS → Prop, am_M Ln d 117 [vR 1, vI (σ 0 (w32 (x3 + 1))), vI (σ 0 (w32 (x3 + 2))), vI (σ 0 (w32 (x3 + 3))), vI (σ 0 (w32 (x3 + 4)))] σ T ∧ ∀ (r118 : Int) s117, T (some (vI r118)) s117 →
      (0 ≤ w32 (x3 + 1) ∧ w32 (x3 + 1) < Ln) ∧ ((0 ≤ w32 (x3 + 2) ∧ w32 (x3 + 2) < Ln) ∧ ((0 ≤ w32 (x3 + 3) ∧ w32 (x3 + 3) < Ln) ∧ ((0 ≤ w32 (x3 + 4) ∧ w32 (x3 + 4) < Ln) ∧ (∃ T : Option AV → AS → Prop, am_M Ln d 237 [vR 82, vI (s117 0 (w32 (x3 + 1))), vI (s117 0 (w32 (x3 + 2))), vI (s117 0 (w32 (x3 + 3))), vI (s117 0 (w32 (x3 + 4)))] s117 T ∧ ∀ (r120 : Int) s119, T (some (vI r120)) s119 →
      (r118 = r120 →
        am_E Ln d 0 18 [vR 0, vR 1, vR 82, vI (w32 (x3 + 8))] [] s119 Q) ∧
      (¬ (r118 = r120) →
        am_b 0 ∧ Q (some (vI 0)) s119)))))))))) ∧
    (bAnd (σ 0 x3) 31 = 0 + 1 + 1 + 1 + 1 + 1 + 1 + 1 + 1 + 1 + 1 + 1 + 1 + 1 + 1 + 1 + 1 + 1 + 1 + 1 + 1 + 1 + 1 + 1 + 1 + 1 + 1 →
      (0 ≤ w32 (x3 + 1) ∧ w32 (x3 + 1) < Ln) ∧ (∃ T : Option AV → AS → Prop, am_M Ln d 118 [vR 1, vI (σ 0 (w32 (x3 + 1)))] σ T ∧ ∀ (r122 : Int) s121, T (some (vI r122)) s121 →
      (0 ≤ w32 (x3 + 1) ∧ w32 (x3 + 1) < Ln) ∧ (∃ T : Option AV → AS → Prop, am_M Ln d 240 [vR 82, vI (s121 0 (w32 (x3 + 1)))] s121 T ∧ ∀ (r124 : Int) s123, T (some (vI r124)) s123 →
      (r122 = r124 →
        am_E Ln d 0 18 [vR 0, vR 1, vR 82, vI (w32 (x3 + 8))] [] s123 Q) ∧
      (¬ (r122 = r124) →
        am_b 0 ∧ Q (some (vI 0)) s123)))) ∧
    (bAnd (σ 0 x3) 31 = 0 + 1 + 1 + 1 + 1 + 1 + 1 + 1 + 1 + 1 + 1 + 1 + 1 + 1 + 1 + 1 + 1 + 1 + 1 + 1 + 1 + 1 + 1 + 1 + 1 + 1 + 1 + 1 →
      (0 ≤ w32 (x3 + 1) ∧ w32 (x3 + 1) < Ln) ∧ (∃ T : Option AV → AS → Prop, am_M Ln d 119 [vR 1, vI (σ 0 (w32 (x3 + 1)))] σ T ∧ ∀ (r126 : Int) s125, T (some (vI r126)) s125 →
      (0 ≤ w32 (x3 + 1) ∧ w32 (x3 + 1) < Ln) ∧ (∃ T : Option AV → AS → Prop, am_M Ln d 242 [vR 82, vI (s125 0 (w32 (x3 + 1)))] s125 T ∧ ∀ (r128 : Int) s127, T (some (vI r128)) s127 →
      (r126 = r128 →
        am_E Ln d 0 18 [vR 0, vR 1, vR 82, vI (w32 (x3 + 8))] [] s127 Q) ∧
      (¬ (r126 = r128) →
        am_b 0 ∧ Q (some (vI 0)) s127)))) ∧
    (bAnd (σ 0 x3) 31 = 0 + 1 + 1 + 1 + 1 + 1 + 1 + 1 + 1 + 1 + 1 + 1 + 1 + 1 + 1 + 1 + 1 + 1 + 1 + 1 + 1 + 1 + 1 + 1 + 1 + 1 + 1 + 1 + 1 →
      (0 ≤ w32 (x3 + 1) ∧ w32 (x3 + 1) < Ln) ∧ ((0 ≤ w32 (x3 + 2) ∧ w32 (x3 + 2) < Ln) ∧ (∃ T : Option AV → AS → Prop, am_M Ln d 120 [vR 1, vI (σ 0 (w32 (x3 + 1))), vI (σ 0 (w32 (x3 + 2)))] σ T ∧ ∀ (r130 : Int) s129, T (some (vI r130)) s129 →
      (0 ≤ w32 (x3 + 1) ∧ w32 (x3 + 1) < Ln) ∧ ((0 ≤ w32 (x3 + 2) ∧ w32 (x3 + 2) < Ln) ∧ (∃ T : Option AV → AS → Prop, am_M Ln d 243 [vR 82, vI (s129 0 (w32 (x3 + 1))), vI (s129 0 (w32 (x3 + 2)))] s129 T ∧ ∀ (r132 : Int) s131, T (some (vI r132)) s131 →
      (r130 = r132 →
        am_E Ln d 0 18 [vR 0, vR 1, vR 82, vI (w32 (x3 + 8))] [] s131 Q) ∧
      (¬ (r130 = r132) →
        am_b 0 ∧ Q (some (vI 0)) s131)))))) ∧
    (bAnd (σ 0 x3) 31 = 0 + 1 + 1 + 1 + 1 + 1 + 1 + 1 + 1 + 1 + 1 + 1 + 1 + 1 + 1 + 1 + 1 + 1 + 1 + 1 + 1 + 1 + 1 + 1 + 1 + 1 + 1 + 1 + 1 + 1 →
      (0 ≤ w32 (x3 + 1) ∧ w32 (x3 + 1) < Ln) ∧ (∃ T : Option AV → AS → Prop, am_M Ln d 121 [vR 1, vI (σ 0 (w32 (x3 + 1)))] σ T ∧ ∀ (r134 : Int) s133, T (some (vI r134)) s133 →
      (0 ≤ w32 (x3 + 1) ∧ w32 (x3 + 1) < Ln) ∧ (∃ T : Option AV → AS → Prop, am_M Ln d 244 [vR 82, vI (s133 0 (w32 (x3 + 1)))] s133 T ∧ ∀ (r136 : Int) s135, T (some (vI r136)) s135 →
      (r134 = r136 →
        am_E Ln d 0 18 [vR 0, vR 1, vR 82, vI (w32 (x3 + 8))] [] s135 Q) ∧
      (¬ (r134 = r136) →
        am_b 0 ∧ Q (some (vI 0)) s135)))) ∧
    (bAnd (σ 0 x3) 31 < 0 ∨ 29 < bAnd (σ 0 x3) 31 →
      am_E Ln d 0 18 [vR 0, vR 1, vR 82, vI (w32 (x3 + 8))] [] σ Q) ∧ True))) : am_E Ln d 0 18 [vR 0, vR 1, vR 82, vI x3] [] σ Q :=
  am_vc_E (d := d) (m := 0) (cut := [(18, [true, true, true, true])]) 95 18 [vR 0, vR 1, vR 82, vI x3] [] σ h
