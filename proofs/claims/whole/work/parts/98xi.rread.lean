/-! the class reads a clause, whole -/
def BDY (Ln : Int) (d : Nat) (r j c r2 q : Int) (s1 : AS) (Qq : AS → Prop) : Prop :=
  (j < 12 →
      (0 ≤ c ∧ c < 240) ∧ ((0 ≤ r ∧ r < 20) ∧ ((r2 = 120 →
        ∃ T : Option AV → AS → Prop, am_M Ln d 62 [vR 39, vI 19] (am_up (am_up (am_up s1 39 3 (q + 1)) 30 c r2) 29 r (j + 1)) T ∧ ∀ (r4 : Int) s3, T (some (vI r4)) s3 →
        (0 ≤ c ∧ c < 240) ∧ (∃ T : Option AV → AS → Prop, am_M Ln d 64 [vR 39, vI 46] (am_up s3 31 c r4) T ∧ ∀ s5, T none s5 →
        ∃ T : Option AV → AS → Prop, am_M Ln d 62 [vR 39, vI 11] s5 T ∧ ∀ (r7 : Int) s6, T (some (vI r7)) s6 →
        (0 ≤ c ∧ c < 240) ∧ (Qq (am_up s6 32 c r7)))) ∧
      (¬ (r2 = 120) →
        (r2 = 119 →
          ∃ T : Option AV → AS → Prop, am_M Ln d 62 [vR 39, vI 4] (am_up (am_up (am_up s1 39 3 (q + 1)) 30 c r2) 29 r (j + 1)) T ∧ ∀ (r9 : Int) s8, T (some (vI r9)) s8 →
          (0 ≤ c ∧ c < 240) ∧ (∃ T : Option AV → AS → Prop, am_M Ln d 64 [vR 39, vI 40] (am_up s8 31 c r9) T ∧ ∀ s10, T none s10 →
          (0 ≤ c ∧ c < 240) ∧ (∃ T : Option AV → AS → Prop, am_M Ln d 56 [vR 39, vI 1] (am_up s10 33 c (w32 (s10 39 6 + (s10 39 7)))) T ∧ ∀ s11, T none s11 →
          ∃ T : Option AV → AS → Prop, am_M Ln d 64 [vR 39, vI 41] s11 T ∧ ∀ s12, T none s12 →
          (0 ≤ c ∧ c < 240) ∧ (Qq (am_up s12 34 c (w32 (s12 39 6 + (s12 39 7)))))))) ∧
        (¬ (r2 = 119) →
          (0 ≤ c ∧ c < 240) ∧ (∃ T : Option AV → AS → Prop, am_M Ln d 64 [vR 39, vI 40] (am_up (am_up (am_up (am_up s1 39 3 (q + 1)) 30 c r2) 29 r (j + 1)) 31 c 0) T ∧ ∀ s13, T none s13 →
          (0 ≤ c ∧ c < 240) ∧ (∃ T : Option AV → AS → Prop, am_M Ln d 56 [vR 39, vI 1] (am_up s13 33 c (w32 (s13 39 6 + (s13 39 7)))) T ∧ ∀ s14, T none s14 →
          ∃ T : Option AV → AS → Prop, am_M Ln d 64 [vR 39, vI 41] s14 T ∧ ∀ s15, T none s15 →
          (0 ≤ c ∧ c < 240) ∧ (Qq (am_up s15 34 c (w32 (s15 39 6 + (s15 39 7)))))))))))) ∧
    (¬ (j < 12) →
      ∃ T : Option AV → AS → Prop, am_M Ln d 65 [vR 39, vI 4, vI q] s1 T ∧ ∀ s16, T none s16 →
      Qq s16)
def CXD (base : Int) (s : AS) (c : Int) (x : Cx) : Prop := s 30 c = x.1 ∧ s 31 c = x.2.1 ∧ (x.1 = 120 → s 32 c = x.2.2.1) ∧ (x.1 ≠ 120 → SX (s 35) (s 33 c) (s 34 c) 39 x.2.2.2 ∧ s 34 c ≤ base + s 39 7)
def CLQ (r c u j n base : Int) (σ : AS) (lt : Int) : Cs → AS → Prop
  | .inl e, s => KF r c base (n + 9) e σ s
  | .inr x, s => CFr r c (base + u) σ s ∧ s 39 4 = 0 ∧ s 39 5 = σ 39 5 ∧ s 39 3 = x.1 ∧ (u ≤ s 39 7 ∧ s 39 7 ≤ x.1) ∧ s 29 r = j + 1 ∧ CXD base s c (lt, x.2)
section RC
variable {Ln : Int} {ch : Int → Int} {n base : Int} {r c u j q : Int} {σ : AS} {D : Nat}
theorem num_G (hG : CG ch n base) (hT : CT ch n base σ) (hD : 4 ≤ D) {q1 lim : Int} (hl : 0 ≤ lim) {s : AS} (h : KG r c u q1 σ s base) (hq : 0 ≤ q1 ∧ q1 ≤ n) (hu : 0 ≤ u ∧ u ≤ 160) {K : Int → AS → Prop} (hK1 : ∀ v e s', pNum ch lim q1 = .inl e → KF r c base (n + 1) e σ s' → K v s') (hK2 : ∀ x s', pNum ch lim q1 = .inr x → KG r c u x.1 σ s' base → Fr [] [(39, 3), (39, 4), (39, 5)] s s' → K x.2 s') :
    ∃ T : Option AV → AS → Prop, am_M Ln D 62 [vR 39, vI lim] s T ∧ ∀ (v : Int) s', T (some (vI v)) s' → K v s' := by
  obtain ⟨D', rfl⟩ : ∃ D', D = D' + 4 := ⟨D - 4, by omega⟩
  have hb := hG.2.2.2
  obtain ⟨h1, h2, h3, h4, h5⟩ := h
  refine cI (sp_readNumber (d := D') hG (CT_rd hT h1.1) hl h2 (by omega) (by omega)) ?_
  intro v s' hN
  rw [h4] at hN
  cases hr : pNum ch lim q1 with
  | inl e =>
    rw [hr] at hN
    obtain ⟨g1, g2, g3, g4, g5⟩ := hN
    have hc2 : CFr r c base s s' := CFr_cq (g1.mo (by decide) (by decide)) (fun j hj => by rw [g1.cell 35 (by decide)])
    have hc1 : CFr r c base σ s := ⟨h1.1, fun j hj => h1.2.1 j (by omega), h1.2.2⟩
    exact hK1 v e s' hr ⟨hc1.tr hc2, g2, g3, by rw [g1.fld 39 7 (by decide)]; omega, g4, g5⟩
  | inr x =>
    rw [hr] at hN
    obtain ⟨g1, g2, g3, rfl, g4, g4b, g5⟩ := hN
    have hc2 : CFr r c (base + u) s s' := CFr_cq (g1.mo (by decide) (by decide)) (fun j hj => by rw [g1.cell 35 (by decide)])
    exact hK2 x s' hr ⟨h1.tr hc2, g2, by rw [g5]; exact h3, g3, by rw [g1.fld 39 7 (by decide)]; exact h5⟩ g1
theorem bdy_G (hG : CG ch n base) (hT : CT ch n base σ) (hD : 25 ≤ D) (h4 : σ 39 4 = 0) (h3 : σ 39 3 = q) (h7 : σ 39 7 = u) (hq : 0 ≤ q ∧ q ≤ n) (hu : 0 ≤ u ∧ u ≤ q) (hr : 0 ≤ r ∧ r < 20) (hj : 0 ≤ j ∧ j ≤ 12) (hc : c = r * 12 + j) (hl : isC (ch q) = true) : BDY Ln D r j c (ch q) q σ (CLQ r c u j n base σ (ch q) (pClause ch n j q)) := by
  have hgn := hG.2.2.1
  have hb := hG.2.2.2
  have hlt : q < n := by
    by_cases y : n ≤ q
    · rw [hG.1 q y] at hl; exact absurd hl (by decide)
    · omega
  have hcc : j < 12 → 0 ≤ c ∧ c < 240 := fun _ => by omega
  -- the clause's letter is written
  have hτ : KG r c u (q + 1) σ (am_up (am_up (am_up σ 39 3 (q + 1)) 30 c (ch q)) 29 r (j + 1)) base := by
    refine ⟨CFr_29 (CFr_c (CFr_39 CFr.rf (by decide)) (by omega)), ?_, ?_, ?_, ?_⟩
    · rw [am_up_ne (by decide), am_up_ne (by decide), am_up_eq, if_neg (by decide)]; exact h4
    · rw [am_up_ne (by decide), am_up_ne (by decide), am_up_eq, if_neg (by decide)]
    · rw [am_up_ne (by decide), am_up_ne (by decide), am_up_eq, if_pos rfl]
    · rw [am_up_ne (by decide), am_up_ne (by decide), am_up_eq, if_neg (by decide)]; exact h7
  have t30 : (am_up (am_up (am_up σ 39 3 (q + 1)) 30 c (ch q)) 29 r (j + 1)) 30 c = ch q := by rw [am_up_ne (by decide), am_up_eq, if_pos rfl]
  have t29 : (am_up (am_up (am_up σ 39 3 (q + 1)) 30 c (ch q)) 29 r (j + 1)) 29 r = j + 1 := by rw [am_up_eq, if_pos rfl]
  -- the body of a clause
  have bod : ∀ (ρ : AS) (q1 f : Int), j < 12 → ch q ≠ 120 → pHead ch q = .inr (q1, f) → KG r c u q1 σ ρ base → q < q1 → q1 ≤ n → ρ 30 c = ch q → ρ 31 c = f → ρ 29 r = j + 1 → ∃ T : Option AV → AS → Prop, am_M Ln D 64 [vR 39, vI 40] ρ T ∧ ∀ s10, T none s10 →
          (0 ≤ c ∧ c < 240) ∧ (∃ T : Option AV → AS → Prop, am_M Ln D 56 [vR 39, vI 1] (am_up s10 33 c (w32 (s10 39 6 + (s10 39 7)))) T ∧ ∀ s11, T none s11 →
          ∃ T : Option AV → AS → Prop, am_M Ln D 64 [vR 39, vI 41] s11 T ∧ ∀ s12, T none s12 →
          (0 ≤ c ∧ c < 240) ∧ (CLQ r c u j n base σ (ch q) (pClause ch n j q) (am_up s12 34 c (w32 (s12 39 6 + (s12 39 7)))))) := by
    intro ρ q1 f hj2 hx hh hk hqq hqn r30 r31 r29
    have hpc : pClause ch n j q = pBody ch n (q1, f) := by
      unfold pClause
      rw [if_pos hl, if_neg (by omega), if_neg hx, hh]
    rw [hpc]
    refine tb_G hG hT hD hk (by omega) (by omega) (hcc hj2) (f := f) (fun e s he hs => ?_) (fun x s he hs => ?_)
    · rw [he]; exact hs
    · rw [he]
      obtain ⟨g1, g2, g3, g4, g5, ⟨g6, g7, g8⟩, g9, g10⟩ := hs
      have hf : x.2.1 = f := by
        unfold pBody at he
        dsimp only at he
        by_cases z : ch q1 = 40
        · rw [if_pos z] at he
          cases hp : pIn ch 41 (pCond ch n (pPiece ch n 5)) q1 with
          | inl e => rw [hp] at he; cases he
          | inr y => rw [hp] at he; cases he; rfl
        · rw [if_neg z] at he; cases he
      exact ⟨g1, g2, g3, g4, g5, by rw [g8]; exact r29, by rw [g6]; exact r30, by rw [g7, r31]; exact hf.symm, fun y => absurd y hx, fun _ => ⟨g9, by rw [g10]; exact Int.le_refl _⟩⟩
  refine ⟨fun hj2 => ⟨hcc hj2, hr, fun hx => ?_, fun hx => ⟨fun hw => ?_, fun hw => ⟨hcc hj2, ?_⟩⟩⟩, fun hj2 => ?_⟩
  · have hpc : pClause ch n j q = pX ch q := by
      unfold pClause
      rw [if_pos hl, if_neg (by omega), if_pos hx]
    rw [hpc]
    unfold pX
    refine num_G hG hT (by omega) (by decide) hτ (by omega) (by omega) (fun v e s' he hs => ⟨hcc hj2, ?_⟩) (fun x s' he hs hfr => ⟨hcc hj2, ?_⟩)
    · rw [he]
      have hg := gd_num (n := n) hG.1 (lim := 19) (q := q + 1) (by omega) (by omega)
      rw [he] at hg
      exact tx_F hG hT hD (KF_c (k := 31) hs (by omega)) (by have := hg.1; omega) (by omega) (Int.le_refl base) (hcc hj2) (fun s h => KF_mo h (by omega))
    · rw [he]
      have hg := gd_num (n := n) hG.1 (lim := 19) (q := q + 1) (by omega) (by omega)
      rw [he] at hg
      have hk := KG_c (k := 31) (v := x.2) hs (by omega)
      obtain ⟨D', rfl⟩ : ∃ D', D = D' + 4 := ⟨D - 4, by omega⟩
      refine cV (sp_passG (d := D' + 1) hG (CT_rd hT hk.1.1) hk.2.1 hk.2.2.2.1 (by omega) (c := 46) (by decide)) ?_
      rintro s5 ⟨k1, k2⟩
      dsimp only
      by_cases z : ch x.1 = 46
      · rw [k1 z, if_pos z]
        have hlt2 := ch_lt hG.1 z (by decide)
        have hk5 : KG r c u (x.1 + 1) σ (am_up (am_up s' 31 c x.2) 39 3 (x.1 + 1)) base := by
          refine ⟨CFr_39 hk.1 (by decide), ?_, ?_, ?_, ?_⟩
          · rw [am_up_eq, if_neg (by decide)]; exact hk.2.1
          · rw [am_up_eq, if_neg (by decide)]; exact hk.2.2.1
          · rw [am_up_eq, if_pos rfl]
          · rw [am_up_eq, if_neg (by decide)]; exact hk.2.2.2.2
        refine num_G hG hT (by omega) (by decide) hk5 (by omega) (by omega) (fun v e s6 he2 hs6 => ⟨hcc hj2, ?_⟩) (fun y s6 he2 hs6 hfr6 => ⟨hcc hj2, ?_⟩)
        · rw [he2]
          exact KF_mo (KF_c (k := 32) hs6 (by omega)) (by omega)
        · rw [he2]
          have hk6 := KG_c (k := 32) (v := y.2) hs6 (by omega)
          have hg2 := gd_num (n := n) hG.1 (lim := 11) (q := x.1 + 1) (by omega) (by omega)
          rw [he2] at hg2
          refine ⟨hk6.1, hk6.2.1, hk6.2.2.1, hk6.2.2.2.1, by rw [hk6.2.2.2.2]; show u ≤ u ∧ u ≤ y.1; omega, ?_, ?_, ?_, ?_, fun v => absurd hx v⟩
          · rw [am_up_ne (by decide), hfr6.cell 29 (by decide), am_up_ne (by decide), am_up_ne (by decide), hfr.cell 29 (by decide)]; exact t29
          · rw [am_up_ne (by decide), hfr6.cell 30 (by decide), am_up_ne (by decide), am_up_ne (by decide), hfr.cell 30 (by decide)]; exact t30
          · rw [am_up_ne (by decide), hfr6.cell 31 (by decide), am_up_ne (by decide), am_up_eq, if_pos rfl]
          · intro _
            rw [am_up_eq, if_pos rfl]
      · rw [k2 z, if_neg z]
        have hF : KF r c (base + u) (n + 1) (1, x.1) σ (am_up (am_up (am_up (am_up s' 31 c x.2) 39 4 1) 39 5 x.1) 39 3 (x.1 + 1)) := KG_fail hk (by omega) (by omega)
        refine cI (sp_readNumberF (d := D') (by rw [hF.2.1]; show (1 : Int) ≠ 0; decide)) ?_
        rintro r7 s6 rfl
        refine ⟨hcc hj2, KF_mo (KF_c (k := 32) ⟨⟨hF.1.1, fun j hj => hF.1.2.1 j (by omega), hF.1.2.2⟩, hF.2⟩ (by omega)) (by omega)⟩
  · refine num_G hG hT (by omega) (by decide) hτ (by omega) (by omega) (fun v e s' he hs => ⟨hcc hj2, ?_⟩) (fun x s' he hs hfr => ⟨hcc hj2, ?_⟩)
    · have hpc : pClause ch n j q = .inl e := by
        unfold pClause pHead
        rw [if_pos hl, if_neg (by omega), if_neg hx, if_pos hw, he]
      have hg := gd_num (n := n) hG.1 (lim := 4) (q := q + 1) (by omega) (by omega)
      rw [he] at hg
      rw [hpc]
      exact tb_F hG hT hD (KF_c (k := 31) hs (by omega)) (by have := hg.1; omega) (by omega) (Int.le_refl base) (hcc hj2) (fun s h => KF_mo h (by omega))
    · have hg := gd_num (n := n) hG.1 (lim := 4) (q := q + 1) (by omega) (by omega)
      rw [he] at hg
      refine bod _ x.1 x.2 hj2 hx (by unfold pHead; rw [if_pos hw, he]) (KG_c (k := 31) hs (by omega)) (by omega) hg.2 ?_ ?_ ?_
      · rw [am_up_ne (by decide), hfr.cell 30 (by decide)]; exact t30
      · rw [am_up_eq, if_pos rfl]
      · rw [am_up_ne (by decide), hfr.cell 29 (by decide)]; exact t29
  · refine bod _ (q + 1) 0 hj2 hx (by unfold pHead; rw [if_neg hw]) (KG_c (k := 31) hτ (by omega)) (by omega) (by omega) ?_ ?_ ?_
    · rw [am_up_ne (by decide)]; exact t30
    · rw [am_up_eq, if_pos rfl]
    · rw [am_up_ne (by decide)]; exact t29
  · obtain ⟨D', rfl⟩ : ∃ D', D = D' + 1 := ⟨D - 1, by omega⟩
    refine cV (sp_fail0 h4) ?_
    rintro s16 rfl
    have hpc : pClause ch n j q = .inl (4, q) := by
      unfold pClause
      rw [if_pos hl, if_pos (by omega)]
    rw [hpc]
    refine ⟨CFr_39 (CFr_39 CFr.rf (by decide)) (by decide), up45_4, up45_5, by rw [up45_7]; omega, by rw [up45_3]; omega, by rw [up45_3]; omega⟩
theorem bdy_F (hG : CG ch n base) (hT : CT ch n base σ) (hD : 25 ≤ D) {top B : Int} {e : Int × Int} {s : AS} {r2 : Int} (h : KF r c top B e σ s) (he : e.1 ≠ 0) (hB : B ≤ 700) (htop : top ≤ base) (h3 : s 39 3 = q) (hr : 0 ≤ r ∧ r < 20) (hj : 0 ≤ j ∧ j ≤ 12) (hc : c = r * 12 + j) : BDY Ln D r j c r2 q s (KF r c top (B + 3) e σ) := by
  have hcc : j < 12 → 0 ≤ c ∧ c < 240 := fun _ => by omega
  have hq := h.2.2.2.2
  have hF : KF r c top (B + 1) e σ (am_up (am_up (am_up s 39 3 (q + 1)) 30 c r2) 29 r (j + 1)) := KF_29 (KF_c (KF_at h (by omega)) (by omega))
  have e4 : (am_up (am_up (am_up s 39 3 (q + 1)) 30 c r2) 29 r (j + 1)) 39 4 ≠ 0 := by rw [hF.2.1]; exact he
  obtain ⟨D', rfl⟩ : ∃ D', D = D' + 4 := ⟨D - 4, by omega⟩
  refine ⟨fun hj2 => ⟨hcc hj2, hr, fun hx => cI (sp_readNumberF (d := D') e4) ?_, fun hx => ⟨fun hw => cI (sp_readNumberF (d := D') e4) ?_, fun hw => ⟨hcc hj2, ?_⟩⟩⟩, fun hj2 => cV (sp_fail1 (by rw [h.2.1]; exact he)) ?_⟩
  · rintro v s' rfl
    exact ⟨hcc hj2, tx_F hG hT hD (KF_c (k := 31) hF (by omega)) he (by omega) htop (hcc hj2) (fun s h => KF_mo h (by omega))⟩
  · rintro v s' rfl
    exact ⟨hcc hj2, tb_F hG hT hD (KF_c (k := 31) hF (by omega)) he (by omega) htop (hcc hj2) (fun s h => KF_mo h (by omega))⟩
  · exact tb_F hG hT hD (KF_c (k := 31) hF (by omega)) he (by omega) htop (hcc hj2) (fun s h => KF_mo h (by omega))
  · rintro s16 rfl
    exact KF_mo h (by omega)
/-- the class reads a clause -/
theorem sp_readClause (hG : CG ch n base) (hT : CT ch n base σ) (hD : 25 ≤ D) (h4 : σ 39 4 = 0) (h3 : σ 39 3 = q) (h7 : σ 39 7 = u) (hq : 0 ≤ q ∧ q ≤ n) (hu : 0 ≤ u ∧ u ≤ q) (hr : 0 ≤ r ∧ r < 20) (hj : 0 ≤ j ∧ j ≤ 12) : am_M Ln (D + 1) 55 [vR 39, vI r, vI j] σ (am_rV (CLQ r (r * 12 + j) u j n base σ (ch q) (pClause ch n j q))) := by
  obtain ⟨D', rfl⟩ : ∃ D', D = D' + 2 := ⟨D - 2, by omega⟩
  have hgn := hG.2.2.1
  refine vm_X8_readClause _ _ _ (cI (sp_peekC (d := D') hG hT (by omega)) ?_)
  rintro r2 s1 ⟨rfl, hp⟩
  rw [h3] at hp
  rw [h3, w32_id (x := r * 12) (by omega) (by omega), w32_id (x := r * 12 + j) (by omega) (by omega), w32_id (x := j + 1) (by omega) (by omega), w32_id (x := q + 1) (by omega) (by omega)]
  have e1 := pkC_eq hG hp (c := 119) (by decide)
  have e2 := pkC_eq hG hp (c := 114) (by decide)
  have e3 := pkC_eq hG hp (c := 103) (by decide)
  have e4 := pkC_eq hG hp (c := 120) (by decide)
  have body : isC (ch q) = true → BDY Ln (D' + 2) r j (r * 12 + j) r2 q s1 (CLQ r (r * 12 + j) u j n base s1 (ch q) (pClause ch n j q)) := by
    intro hl
    have he := pk_op (op := isC) (by decide) hp hl
    rw [he.1]
    exact bdy_G hG hT hD h4 h3 h7 hq hu hr hj rfl hl
  refine ⟨fun z => body (decide_eq_true (Or.inl (e1.mp z))), fun z1 => ⟨fun z => body (decide_eq_true (Or.inr (Or.inl (e2.mp z)))), fun z2 => ⟨fun z => body (decide_eq_true (Or.inr (Or.inr (Or.inl (e3.mp z))))), fun z3 => ⟨fun z => body (decide_eq_true (Or.inr (Or.inr (Or.inr (e4.mp z))))), fun z4 => cV (sp_fail0 h4) ?_⟩⟩⟩⟩
  rintro s59 rfl
  have hl : ¬ isC (ch q) = true := fun y => by
    rcases of_decide_eq_true y with v | v | v | v
    · exact z1 (e1.mpr v)
    · exact z2 (e2.mpr v)
    · exact z3 (e3.mpr v)
    · exact z4 (e4.mpr v)
  have hpc : pClause ch n j q = .inl (1, q) := by
    unfold pClause
    rw [if_neg hl]
  show CLQ _ _ _ _ _ _ _ _ (pClause ch n j q) _
  rw [hpc]
  refine ⟨CFr_39 (CFr_39 CFr.rf (by decide)) (by decide), up45_4, up45_5, by rw [up45_7]; omega, by rw [up45_3]; omega, by rw [up45_3]; omega⟩
theorem sp_readClauseF (hG : CG ch n base) (hT : CT ch n base σ) (hD : 25 ≤ D) {top B : Int} {e : Int × Int} {s : AS} (h : KF r (r * 12 + j) top B e σ s) (he : e.1 ≠ 0) (hB : B ≤ 700) (htop : top ≤ base) (hr : 0 ≤ r ∧ r < 20) (hj : 0 ≤ j ∧ j ≤ 12) : am_M Ln (D + 1) 55 [vR 39, vI r, vI j] s (am_rV (KF r (r * 12 + j) top (B + 3) e σ)) := by
  obtain ⟨D', rfl⟩ : ∃ D', D = D' + 2 := ⟨D - 2, by omega⟩
  have hq := h.2.2.2.2
  refine vm_X8_readClause _ _ _ (cI (sp_peekC (d := D') hG (CT_rd hT h.1.1) hq.1) ?_)
  rintro r2 s1 ⟨rfl, -⟩
  obtain ⟨q, h3⟩ : ∃ q, s1 39 3 = q := ⟨_, rfl⟩
  rw [h3, w32_id (x := r * 12) (by omega) (by omega), w32_id (x := r * 12 + j) (by omega) (by omega), w32_id (x := j + 1) (by omega) (by omega), w32_id (x := q + 1) (by omega) (by omega)]
  have body : BDY Ln (D' + 2) r j (r * 12 + j) r2 q s1 (KF r (r * 12 + j) top (B + 3) e σ) := bdy_F hG hT hD h he hB htop h3 hr hj rfl
  refine ⟨fun z => body, fun z1 => ⟨fun z => body, fun z2 => ⟨fun z => body, fun z3 => ⟨fun z => body, fun z4 => cV (sp_fail1 (by rw [h.2.1]; exact he)) ?_⟩⟩⟩⟩
  rintro s59 rfl
  exact KF_mo h (by omega)
end RC
