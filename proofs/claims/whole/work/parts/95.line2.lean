/-! a new line, in both books -/
def dtC (σ : AS) (dy f t : Int) : Prop := (0 ≤ dy ∧ dy ≤ 3999) ∧ dy ≤ σ 1 10 ∧ (0 ≤ f ∧ f ≤ t ∧ t ≤ 23) ∧ σ 7 11 < 100
def lnP (σ : AS) (A : Prop) (k p w s g dy f t : Int) (r : Int) (ρ : AS) : Prop := ((A ∧ (1 ≤ s ∧ s ≤ 1000000) ∧ dtC σ dy f t) → r = σ 7 11 ∧ newl σ k p w s g dy f t ρ) ∧ (¬ (A ∧ (1 ≤ s ∧ s ≤ 1000000) ∧ dtC σ dy f t) → r = -1 ∧ ρ = σ)
theorem lnN {σ : AS} {A : Prop} {k p w s g dy f t : Int} (h : ¬ (A ∧ (1 ≤ s ∧ s ≤ 1000000) ∧ dtC σ dy f t)) : lnP σ A k p w s g dy f t (-1) σ := ⟨fun q => absurd q h, fun _ => ⟨rfl, rfl⟩⟩
section LN
variable {Ln : Int} {σ : AS} {n : Nat} {G : Int → GF}
theorem sp_mayDate {d : Nat} {dy f t : Int} : am_M Ln (d + 2) 124 [vR 1, vI dy, vI f, vI t] σ (am_rI fun r s => ((r = 0 → ¬ dtC σ dy f t) ∧ (r ≠ 0 → dtC σ dy f t)) ∧ s = σ) := by
  have no : ∀ {s : AS}, s = σ → ¬ dtC σ dy f t → am_b 0 ∧ am_rI (fun r s => ((r = 0 → ¬ dtC σ dy f t) ∧ (r ≠ 0 → dtC σ dy f t)) ∧ s = σ) (some (vI 0)) s := fun h1 h2 => ⟨am_b0, ⟨fun _ => h2, fun q => absurd rfl q⟩, h1⟩
  unfold dtC at no ⊢
  refine vm_X11_mayDate _ _ _ _ ⟨fun h1 => cG sp_cDay (fun h => no rfl (fun q => h q.1)) (fun g1 => ⟨fun h => no rfl (fun q => by omega), fun h => ⟨fun _ => no rfl (fun q => by omega), fun q => absurd rfl q⟩⟩), fun h1 => ⟨fun h2 => cG sp_cDay (fun h => no rfl (fun q => h q.1)) (fun g1 => ⟨fun h => no rfl (fun q => by omega), fun h => ⟨fun _ => no rfl (fun q => by omega), fun q => absurd rfl q⟩⟩), fun h2 => ⟨fun h3 => cG sp_cDay (fun h => no rfl (fun q => h q.1)) (fun g1 => ⟨fun h => no rfl (fun q => by omega), fun h => ⟨fun _ => no rfl (fun q => by omega), fun q => absurd rfl q⟩⟩), fun h3 => cG sp_cDay (fun h => no rfl (fun q => h q.1)) (fun g1 => ⟨fun h => no rfl (fun q => by omega), fun h => ⟨fun q => absurd q (by decide), fun _ => ⟨fun h4 => no rfl (fun q => by omega), fun h4 => ⟨am_b1, ⟨fun q => absurd q (by decide), fun _ => ⟨g1, by omega, by omega, by omega⟩⟩, rfl⟩⟩⟩⟩)⟩⟩⟩
theorem c_dated {dy f t : Int} {A B : AS → Prop} (h0 : ¬ dtC σ dy f t → A σ) (h1 : dtC σ dy f t → B σ) : ∃ T : Option AV → AS → Prop, am_M Ln 999 124 [vR 1, vI dy, vI f, vI t] σ T ∧ ∀ (r : Int) s, T (some (vI r)) s → (r = 0 → A s) ∧ (¬ (r = 0) → B s) := by
  refine cI (sp_mayDate (d := 997)) ?_
  rintro r s ⟨⟨a1, a2⟩, rfl⟩
  exact ⟨fun q => h0 (a1 q), fun q => h1 (a2 q)⟩
theorem c_tail {k p w s g dy f t : Int} {A : Prop} (hI : INV σ n G) (hA : A) :
    ∃ T : Option AV → AS → Prop, am_M Ln 999 131 [vI s] σ T ∧ ∀ (r4 : Int) s3, T (some (vI r4)) s3 → (r4 = 0 → am_rI (lnP σ A k p w s g dy f t) (some (vI (-1))) s3) ∧ (¬ (r4 = 0) →
      ∃ T : Option AV → AS → Prop, am_M Ln 999 124 [vR 1, vI dy, vI f, vI t] s3 T ∧ ∀ (r6 : Int) s5, T (some (vI r6)) s5 → (r6 = 0 → am_rI (lnP σ A k p w s g dy f t) (some (vI (-1))) s5) ∧ (¬ (r6 = 0) →
        ∃ T : Option AV → AS → Prop, am_M Ln 999 17 [vR 7, vI k, vI p, vI w, vI s, vI g] s5 T ∧ ∀ s7, T none s7 → ∃ T : Option AV → AS → Prop, am_M Ln 999 18 [vR 7, vI dy, vI f, vI t, vI (s7 1 10)] s7 T ∧ ∀ (r9 : Int) s8, T (some (vI r9)) s8 → am_rI (lnP σ A k p w s g dy f t) (some (vI r9)) s8)) := by
  have hz := hI.1.2.2.2.2.1
  exact cG sp_cSum (fun h => lnN (fun q => h q.2.1)) (fun g2 => c_dated (fun h => lnN (fun q => h q.2.2)) (fun g3 => c_told hI.1.2.2.2.2.2.1 ⟨hz.1, g3.2.2.2⟩ (fun ρ h => ⟨fun _ => ⟨rfl, h⟩, fun q => absurd ⟨hA, g2, g3⟩ q⟩)))
/-- the line in the model's book too -/
def mline (ρ : AS) (z k p w s g dy f t nw : Int) : AS := am_up (am_up (am_up (am_up (am_up (am_up (am_up (am_up (am_up (am_up (am_up ρ 86 z k) 87 z p) 88 z w) 89 z s) 95 z (bAnd g 1)) 90 z dy) 91 z f) 92 z t) 93 z nw) 94 z (-1)) 82 6 (z + 1)
theorem mline_0 {ρ : AS} {z k p w s g dy f t nw : Int} : mline ρ z k p w s g dy f t nw 0 = ρ 0 := by
  unfold mline
  rw [am_up_ne (by decide), am_up_ne (by decide), am_up_ne (by decide), am_up_ne (by decide), am_up_ne (by decide), am_up_ne (by decide), am_up_ne (by decide), am_up_ne (by decide), am_up_ne (by decide), am_up_ne (by decide), am_up_ne (by decide)]
theorem INV_line {ρ : AS} {k p w s g dy f t : Int} (hI : INV σ n G) (hz : σ 7 11 < 100) (hN : newl σ k p w s g dy f t ρ) (hk : 0 ≤ k ∧ k ≤ 5) (hp : 0 ≤ p ∧ p < σ 4 2) (hs : 1 ≤ s ∧ s ≤ 1000000) (hw : k ≠ 2 → 0 ≤ w ∧ w < 10) (hkw : k = 1 → w ≠ p) (hkn : k = 0 ∨ k = 5 → w < n) (hkt : k = 3 → w < σ 1 12) (hft : f ≤ t) (hdy : 0 ≤ dy ∧ dy ≤ 3999) :
    INV (mline ρ (σ 7 11) k p w s g dy f t (σ 1 10)) n G := by
  obtain ⟨h1, h2, h3, h4, h5, h6, h7, h8⟩ := id hI
  obtain ⟨n1, n2, ⟨n8, n9, n10, n11, n12, n13, n14, n15, n16, n17⟩, nS⟩ := hN
  obtain ⟨⟨b84, b85, b86, b87, b88, b89, b90, b91, b92, b93, b94, b95⟩, -, -⟩ := id h1.1
  have hz0 := h1.2.2.2.2.1.1
  obtain ⟨z, hzz⟩ : ∃ z, z = σ 7 11 := ⟨_, rfl⟩
  rw [← hzz] at n2 n8 n9 n10 n11 n12 n13 n14 n15 n16 n17 hz hz0 ⊢
  obtain ⟨τ, hτ⟩ : ∃ τ, τ = mline ρ z k p w s g dy f t (σ 1 10) := ⟨_, rfl⟩
  rw [← hτ]
  have fρτ : Fr [86, 87, 88, 89, 90, 91, 92, 93, 94, 95] [(82, 6)] ρ τ := by
    rw [hτ]
    unfold mline
    exact Fr.up (Fr.up (Fr.up (Fr.up (Fr.up (Fr.up (Fr.up (Fr.up (Fr.up (Fr.up (Fr.up Fr.rf (Or.inl (by decide))) (Or.inl (by decide))) (Or.inl (by decide))) (Or.inl (by decide))) (Or.inl (by decide))) (Or.inl (by decide))) (Or.inl (by decide))) (Or.inl (by decide))) (Or.inl (by decide))) (Or.inl (by decide))) (Or.inr (by decide))
  have fτ : Fr [8, 9, 10, 11, 12, 13, 14, 15, 16, 17, 18, 86, 87, 88, 89, 90, 91, 92, 93, 94, 95] [(7, 11), (82, 6)] σ τ := (n1.mo (by decide) (by decide)).tr (fρτ.mo (by decide) (by decide))
  have t7 : τ 7 11 = z + 1 := by rw [fρτ.fld 7 11 (by decide), n2]
  have t6 : τ 82 6 = z + 1 := by rw [hτ]; unfold mline; rw [am_up_eq, if_pos rfl]
  have c8 := fρτ.cell 8 (by decide)
  have c9 := fρτ.cell 9 (by decide)
  have c10 := fρτ.cell 10 (by decide)
  have c11 := fρτ.cell 11 (by decide)
  have c12 := fρτ.cell 12 (by decide)
  have c13 := fρτ.cell 13 (by decide)
  have c14 := fρτ.cell 14 (by decide)
  have c15 := fρτ.cell 15 (by decide)
  have c16 := fρτ.cell 16 (by decide)
  have c17 := fρτ.cell 17 (by decide)
  have c18 := fρτ.cell 18 (by decide)
  have t86 : τ 86 = τ 8 := by
    rw [c8, n8, hτ]; unfold mline
    rw [am_up_ne (by decide), am_up_ne (by decide), am_up_ne (by decide), am_up_ne (by decide), am_up_ne (by decide), am_up_ne (by decide), am_up_ne (by decide), am_up_ne (by decide), am_up_ne (by decide), am_up_ne (by decide), up_zc, zc_eq, n1.cell 86 (by decide), b86]
  have t87 : τ 87 = τ 9 := by
    rw [c9, n9, hτ]; unfold mline
    rw [am_up_ne (by decide), am_up_ne (by decide), am_up_ne (by decide), am_up_ne (by decide), am_up_ne (by decide), am_up_ne (by decide), am_up_ne (by decide), am_up_ne (by decide), am_up_ne (by decide), up_zc, zc_eq, am_up_ne (by decide), n1.cell 87 (by decide), b87]
  have t88 : τ 88 = τ 10 := by
    rw [c10, n10, hτ]; unfold mline
    rw [am_up_ne (by decide), am_up_ne (by decide), am_up_ne (by decide), am_up_ne (by decide), am_up_ne (by decide), am_up_ne (by decide), am_up_ne (by decide), am_up_ne (by decide), up_zc, zc_eq, am_up_ne (by decide), am_up_ne (by decide), n1.cell 88 (by decide), b88]
  have t89 : τ 89 = τ 11 := by
    rw [c11, n11, hτ]; unfold mline
    rw [am_up_ne (by decide), am_up_ne (by decide), am_up_ne (by decide), am_up_ne (by decide), am_up_ne (by decide), am_up_ne (by decide), am_up_ne (by decide), up_zc, zc_eq, am_up_ne (by decide), am_up_ne (by decide), am_up_ne (by decide), n1.cell 89 (by decide), b89]
  have t95 : τ 95 = τ 12 := by
    rw [c12, n12, hτ]; unfold mline
    rw [am_up_ne (by decide), am_up_ne (by decide), am_up_ne (by decide), am_up_ne (by decide), am_up_ne (by decide), am_up_ne (by decide), up_zc, zc_eq, am_up_ne (by decide), am_up_ne (by decide), am_up_ne (by decide), am_up_ne (by decide), n1.cell 95 (by decide), b95]
  have t90 : τ 90 = τ 13 := by
    rw [c13, n13, hτ]; unfold mline
    rw [am_up_ne (by decide), am_up_ne (by decide), am_up_ne (by decide), am_up_ne (by decide), am_up_ne (by decide), up_zc, zc_eq, am_up_ne (by decide), am_up_ne (by decide), am_up_ne (by decide), am_up_ne (by decide), am_up_ne (by decide), n1.cell 90 (by decide), b90]
  have t91 : τ 91 = τ 14 := by
    rw [c14, n14, hτ]; unfold mline
    rw [am_up_ne (by decide), am_up_ne (by decide), am_up_ne (by decide), am_up_ne (by decide), up_zc, zc_eq, am_up_ne (by decide), am_up_ne (by decide), am_up_ne (by decide), am_up_ne (by decide), am_up_ne (by decide), am_up_ne (by decide), n1.cell 91 (by decide), b91]
  have t92 : τ 92 = τ 15 := by
    rw [c15, n15, hτ]; unfold mline
    rw [am_up_ne (by decide), am_up_ne (by decide), am_up_ne (by decide), up_zc, zc_eq, am_up_ne (by decide), am_up_ne (by decide), am_up_ne (by decide), am_up_ne (by decide), am_up_ne (by decide), am_up_ne (by decide), am_up_ne (by decide), n1.cell 92 (by decide), b92]
  have t93 : τ 93 = τ 16 := by
    rw [c16, n16, hτ]; unfold mline
    rw [am_up_ne (by decide), am_up_ne (by decide), up_zc, zc_eq, am_up_ne (by decide), am_up_ne (by decide), am_up_ne (by decide), am_up_ne (by decide), am_up_ne (by decide), am_up_ne (by decide), am_up_ne (by decide), am_up_ne (by decide), n1.cell 93 (by decide), b93]
  have t94 : τ 94 = τ 17 := by
    rw [c17, n17, hτ]; unfold mline
    rw [am_up_ne (by decide), up_zc, zc_eq, am_up_ne (by decide), am_up_ne (by decide), am_up_ne (by decide), am_up_ne (by decide), am_up_ne (by decide), am_up_ne (by decide), am_up_ne (by decide), am_up_ne (by decide), am_up_ne (by decide), n1.cell 94 (by decide), b94]
  have hn0 : 0 < n := h4.2.2.2.2.2.1 (by omega)
  have h10 := h4.2.1
  refine ⟨⟨BK_up [(86, 8), (87, 9), (88, 10), (89, 11), (90, 13), (91, 14), (92, 15), (93, 16), (94, 17), (95, 12)] [((82, 6), (7, 11))] h1.1 fτ (by decide) (by decide) ?_ (one_mem (by show τ 82 6 = τ 7 11; rw [t6, t7])), by rw [fτ.fld 1 11 (by decide)]; exact h1.2.1, h1.2.2.1, by rw [fτ.fld 19 4 (by decide)]; exact h1.2.2.2.1, by rw [t7]; omega, ?_, fun i a b => ?_⟩, fun i a b => ?_, RB_cg (fτ.cs RBC (by decide)) (fτ.fld 24 14 (by decide)) h3, NU_cg (fτ.cell 5 (by decide)) (fτ.cell 121 (by decide)) (fτ.fls _ (by decide)) h4, TP_cg (fτ.cell 3 (by decide)) (fτ.cell 83 (by decide)) (fτ.fld 2 1 (by decide)) h5, CH_cg (fτ.cell 71 (by decide)) (fτ.cell 129 (by decide)) (fτ.fld 4 2 (by decide)) (fτ.fld 70 4 (by decide)) h6, BA_cg (fτ.cs BAC (by decide)) (fτ.fld 70 6 (by decide)) h7, DE_cg (fτ.cs DEC (by decide)) (fτ.fld 76 3 (by decide)) h8.1, fun i a b => ⟨fun hk3 => ?_, ?_⟩⟩
  · intro q hq
    simp only [List.mem_cons, List.not_mem_nil, or_false] at hq
    rcases hq with rfl | rfl | rfl | rfl | rfl | rfl | rfl | rfl | rfl | rfl
    · exact t86
    · exact t87
    · exact t88
    · exact t89
    · exact t90
    · exact t91
    · exact t92
    · exact t93
    · exact t94
    · exact t95
  · unfold SI ahd at nS ⊢
    rw [c13, c14, c18, t7, ← n2]
    exact nS
  · rw [t7] at b
    have h5n : ∀ q : Int, 0 ≤ q → q < 10 → 0 ≤ σ 5 q ∧ σ 5 q < n := fun q u v => by have := h4.2.2.2.2.1 q u v; omega
    unfold lv lvn
    rw [c8, c9, c10, c11, n8, n9, n10, n11, fτ.cell 5 (by decide)]
    by_cases e : i = z
    · rw [e, fu_eq, fu_eq, fu_eq, fu_eq]
      exact ⟨⟨⟨hz0, hz⟩, hk, ⟨hp.1, by omega⟩, hs, hw, hkw, fun q u v => by have := h5n q u v; have := h1.2.2.1; omega⟩, hkn, fun q u v => (h5n q u v).2⟩
    · rw [fu_ne e, fu_ne e, fu_ne e, fu_ne e]
      exact h1.2.2.2.2.2.2 i a (by omega)
  · rw [t7] at b
    rw [c13, n13]
    by_cases e : i = z
    · rw [e, fu_eq]; exact hdy
    · rw [fu_ne e]; exact h2 i a (by omega)
  · rw [t7] at b
    rw [c8, n8] at hk3
    rw [c10, n10, fτ.fld 1 12 (by decide)]
    by_cases e : i = z
    · rw [e, fu_eq] at hk3
      rw [e, fu_eq]; exact hkt hk3
    · rw [fu_ne e] at hk3
      rw [fu_ne e]; exact (h8.2 i a (by omega)).1 hk3
  · rw [t7] at b
    rw [c14, c15, n14, n15]
    by_cases e : i = z
    · rw [e, fu_eq, fu_eq]; exact hft
    · rw [fu_ne e, fu_ne e]; exact (h8.2 i a (by omega)).2
theorem m_adds {ρ : AS} {k p w s g dy f t : Int} {d : Nat} (hI : INV σ n G) (hc : (1 ≤ s ∧ s ≤ 1000000) ∧ dtC σ dy f t) (hN : newl σ k p w s g dy f t ρ) : am_M Ln (d + 2) 144 [vR 82, vI k, vI p, vI w, vI s, vI g, vI dy, vI f, vI t] ρ (am_rI fun r s' => r = σ 7 11 ∧ s' = mline ρ (σ 7 11) k p w s g dy f t (σ 1 10)) := by
  have hB := hI.1.1
  have e6 : ρ 82 6 = σ 7 11 := by rw [hN.1.fld 82 6 (by decide)]; exact hB.2.2.2.2.2.2.2.1
  have e2 : ρ 82 2 = σ 1 10 := by rw [hN.1.fld 82 2 (by decide)]; exact hB.2.2.2.1
  have hz := hI.1.2.2.2.2.1
  obtain ⟨hs, hd1, hd2, hd3, hd4⟩ := hc
  refine vm_X12_adds _ _ _ _ _ _ _ _ _ ?_
  rw [e6]
  refine ⟨fun q => absurd q (by omega), fun _ => cG sp_mlies (fun h => absurd hs h) (fun _ => ?_)⟩
  rw [e2]
  refine cG sp_mlies (fun h => absurd ⟨hd1.1, hd2⟩ h) (fun _ => cG sp_mlies (fun h => absurd ⟨hd3.1, by omega⟩ h) (fun _ => cG sp_mlies (fun h => absurd ⟨hd3.2.1, hd3.2.2⟩ h) (fun _ => ?_)))
  rw [e6, e2, w32_id (x := σ 7 11 + 1) (by omega) (by omega), w32_id (x := σ 7 11 + 1 - 1) (by omega) (by omega), show σ 7 11 + 1 - 1 = σ 7 11 by omega]
  have rz : 0 ≤ σ 7 11 ∧ σ 7 11 < 100 := ⟨hz.1, hd4⟩
  exact ⟨rz, rz, rz, rz, rz, rz, rz, rz, rz, rz, rfl, rfl⟩
/-- the model refuses what the class has refused -/
theorem m_addsN {k p w s g dy f t : Int} {d : Nat} (hI : INV σ n G) (hc : ¬ ((1 ≤ s ∧ s ≤ 1000000) ∧ dtC σ dy f t)) : am_M Ln (d + 2) 144 [vR 82, vI k, vI p, vI w, vI s, vI g, vI dy, vI f, vI t] σ (am_rI fun r s' => r = -1 ∧ s' = σ) := by
  have hB := hI.1.1
  have e6 : σ 82 6 = σ 7 11 := hB.2.2.2.2.2.2.2.1
  have e2 : σ 82 2 = σ 1 10 := hB.2.2.2.1
  have hz := hI.1.2.2.2.2.1
  have hd := hI.2.2.2.1.1
  refine vm_X12_adds _ _ _ _ _ _ _ _ _ ?_
  rw [e6]
  refine ⟨fun q => ⟨rfl, rfl⟩, fun g0 => cG sp_mlies (fun h => ⟨rfl, rfl⟩) (fun g1 => ?_)⟩
  rw [e2]
  refine cG sp_mlies (fun h => ⟨rfl, rfl⟩) (fun g2 => cG sp_mlies (fun h => ⟨rfl, rfl⟩) (fun g3 => cG sp_mlies (fun h => ⟨rfl, rfl⟩) (fun g4 => absurd ⟨g1, ?_⟩ hc)))
  unfold dtC
  omega
/-- both, from the class's answer on -/
theorem pr_ln {mx mm : Nat} {ax am : List AV} {A : Prop} {k p w s g dy f t : Int} (hI : INV σ n G) (hA : A → (0 ≤ k ∧ k ≤ 5) ∧ (0 ≤ p ∧ p < σ 4 2) ∧ (k ≠ 2 → 0 ≤ w ∧ w < 10) ∧ (k = 1 → w ≠ p) ∧ (k = 0 ∨ k = 5 → w < n) ∧ (k = 3 → w < σ 1 12)) (h1 : am_M Ln 1000 mx ax σ (am_rI (lnP σ A k p w s g dy f t)))
    (h2 : A → ∀ (ρ : AS) (P : Int → AS → Prop), Fr wkX wkF σ ρ ∨ Fr [8, 9, 10, 11, 12, 13, 14, 15, 16, 17, 18] [(7, 11)] σ ρ → am_M Ln 999 144 [vR 82, vI k, vI p, vI w, vI s, vI g, vI dy, vI f, vI t] ρ (am_rI P) → am_M Ln 1000 mm am ρ (am_rI P)) (h3 : ¬ A → am_M Ln 1000 mm am σ (am_rI fun r s => r = -1 ∧ s = σ)) : PR Ln mx ax mm am σ := by
  refine am_MI h1 ?_
  rintro r ρ ⟨a1, a2⟩
  by_cases hc : A ∧ (1 ≤ s ∧ s ≤ 1000000) ∧ dtC σ dy f t
  · obtain ⟨rfl, hN⟩ := a1 hc
    obtain ⟨b1, b2, b3, b4, b5, b6⟩ := hA hc.1
    refine ⟨hN.1.cell 0 (by decide), h2 hc.1 ρ _ (Or.inr hN.1) (am_MI (m_adds (d := 997) hI hc.2 hN) ?_)⟩
    rintro r' s' ⟨rfl, rfl⟩
    exact ⟨rfl, mline_0.trans (hN.1.cell 0 (by decide)), n, G, INV_line hI hc.2.2.2.2.2 hN b1 b2 hc.2.1 b3 b4 b5 b6 (by have := hc.2.2; unfold dtC at this; omega) hc.2.2.1⟩
  · obtain ⟨rfl, rfl⟩ := a2 hc
    by_cases hA2 : A
    · refine ⟨rfl, h2 hA2 ρ _ (Or.inl Fr.rf) (am_MI (m_addsN (d := 997) hI (fun q => hc ⟨hA2, q⟩)) ?_)⟩
      rintro r' s' ⟨rfl, rfl⟩
      exact ⟨rfl, rfl, n, G, hI⟩
    · refine ⟨rfl, am_MI (h3 hA2) ?_⟩
      rintro r' s' ⟨rfl, rfl⟩
      exact ⟨rfl, rfl, n, G, hI⟩
end LN
