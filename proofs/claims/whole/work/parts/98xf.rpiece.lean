/-! the class reads a piece -/
section RP
variable {Ln : Int} {d : Nat} {σ : AS} {ch : Int → Int} {n base : Int}
theorem sp_cmpC {a : Int} : am_M Ln (d + 1) 70 [vI a] σ (am_rI fun r s => s = σ ∧ r = if isG a = true then opx a else -1) := by
  refine vm_X8_comparison _ _ ⟨fun h => ⟨rfl, by rw [h]; rfl⟩, fun h => ⟨rfl, by rw [h]; rfl⟩, fun h => ⟨rfl, by rw [h]; rfl⟩, fun h => ⟨rfl, ?_⟩, trivial⟩
  have : isG a = false := decide_eq_false (by omega)
  rw [this, if_neg (by decide)]
theorem opx_G {c : Int} (h : isG c = true) : 10 ≤ opx c ∧ opx c ≤ 12 := by
  have : c = 60 ∨ c = 62 ∨ c = 61 := of_decide_eq_true h
  rcases this with z | z | z <;> rw [z] <;> decide
/-- not: what is behind it, then its turn -/
theorem cq_not {dep N B : Int} {S : Int → Rs} (hG : CG ch n base) {Z : GF → Prop} (hS : gdF n Z S) {D : Nat} {D0 : Nat} (hC : CP Ln D0 ch n base 58 dep S N B) (hD : D0 ≤ D) (hD2 : 1 ≤ D) (hT : CT ch n base σ) (h4 : σ 39 4 = 0) {q u : Int} (h3 : σ 39 3 = q) (h7 : σ 39 7 = u) (hq : 0 ≤ q ∧ q < n) (hu : 0 ≤ u ∧ u ≤ q) {N' B' : Int} (hN : N ≤ N') (hB' : B ≤ B') {Q : AS → Prop} (hQ : ∀ s, CQ base u q N' B' σ (pNot S q) s → Q s) :
    ∃ T : Option AV → AS → Prop, am_M Ln D 58 [vR 39, vI dep] (am_up σ 39 3 (q + 1)) T ∧ ∀ s5, T none s5 → ∃ T : Option AV → AS → Prop, am_M Ln D 67 [vR 39, vI 2, vI 0] s5 T ∧ ∀ (r7 : Int) s6, T (some (vI r7)) s6 → Q s6 := by
  obtain ⟨D', rfl⟩ : ∃ D', D = D' + 1 := ⟨D - 1, by omega⟩
  have hn := hG.2.2.1
  have hb := hG.2.2.2
  have f1 : Fr [] [(39, 3)] σ (am_up σ 39 3 (q + 1)) := Fr.up Fr.rf (Or.inr (by decide))
  have e3 : (am_up σ 39 3 (q + 1)) 39 3 = q + 1 := by rw [am_up_eq, if_pos rfl]
  have e4 : (am_up σ 39 3 (q + 1)) 39 4 = 0 := by rw [f1.fld 39 4 (by decide)]; exact h4
  have e7 : (am_up σ 39 3 (q + 1)) 39 7 = u := by rw [f1.fld 39 7 (by decide)]; exact h7
  have hT1 : CT ch n base (am_up σ 39 3 (q + 1)) := CT_fr hT (f1.mo (by decide) (by decide))
  have hh := (hC (D' + 1) _ hD hT1).2 e4 (by omega) (by omega) (by omega) (by omega)
  rw [e3, e7] at hh
  have hg := hS (q + 1) (by omega) (by omega)
  refine cV hh ?_
  intro s5 h5
  unfold pNot at hQ
  cases hr : S (q + 1) with
  | inl e =>
    rw [hr] at h5 hg hQ
    obtain ⟨g1, g2, g3, g4, g5, g6⟩ := h5
    have hF : FP base u B e.1 e.2 σ s5 := ⟨(f1.mo (by decide) (by decide)).tr g1, fun j hj => by rw [g2 j hj, f1.cell 35 (by decide)], g3, g4, g5, g6⟩
    exact cI (sp_emitF (d := D') hF ((CT_fr hT hF.1).2.1) hu.1 hb) (fun r s h => hQ s (FP_mo h.2.2.2 hB'))
  | inr r =>
    rw [hr] at h5 hg hQ
    obtain ⟨g1, g2, g4, g3, g7, g6⟩ := h5
    have hr1 := hg.1
    have fF : Fr cqX cqF σ s5 := (f1.mo (by decide) (by decide)).tr g1
    have e35 : ∀ j : Int, j < base + u → s5 35 j = σ 35 j := fun j hj => by rw [g2 j hj, f1.cell 35 (by decide)]
    refine cI (sp_emitG (d := D') (u := s5 39 7) rfl ((CT_fr hT fF).2.1) (by omega) hb) ?_
    rintro r7 s6 ⟨-, rfl⟩
    rw [cw_make (v := 0) (w := 2) (by omega) (by omega)]
    have x7 : (am_up (am_up s5 35 (base + s5 39 7) (16 * 0 + 2)) 39 7 (s5 39 7 + 1)) 39 7 = s5 39 7 + 1 := by rw [am_up_eq, if_pos rfl]
    have x35 : ∀ j, (am_up (am_up s5 35 (base + s5 39 7) (16 * 0 + 2)) 39 7 (s5 39 7 + 1)) 35 j = if j = base + s5 39 7 then 16 * 0 + 2 else s5 35 j := fun j => by rw [am_up_ne (by decide), am_up_eq]
    refine hQ _ ⟨Fr.up (Fr.up fF (Or.inl (by decide))) (Or.inr (by decide)), fun j hj => by rw [x35, if_neg (by omega)]; exact e35 j hj, ?_, ?_, ?_, ?_⟩
    · rw [am_up_eq, if_neg (by decide), am_up_ne (by decide)]; exact g4
    · rw [am_up_eq, if_neg (by decide), am_up_ne (by decide)]; exact g3
    · rw [x7, am_up_eq, if_neg (by decide), am_up_ne (by decide)]; have := f1.fld 39 5 (by decide); show u < s5 39 7 + 1 ∧ s5 39 7 + 1 - u ≤ r.1 - q ∧ s5 39 5 = σ 39 5; omega
    · rw [x7, show base + (s5 39 7 + 1) = base + s5 39 7 + 1 by omega]
      exact SX_mono (SX_not (SX_congr g6 (fun j j0 j1 => by rw [x35, if_neg (by omega)])) (by rw [x35, if_pos rfl])) hN
theorem pPiece_ne {k : Nat} {q : Int} (h1 : ch q ≠ 33) (h2 : ch q ≠ 40) : pPiece ch n k q = pCmp ch (pSum ch n (pFac ch n k)) q := by
  cases k with
  | zero => rw [pPiece, if_neg h1, if_neg h2]
  | succ k => rw [pPiece, if_neg h1, if_neg h2]
theorem cp_piece (hG : CG ch n base) {k : Nat} (hk : k ≤ 5) (hP : ∀ k' : Nat, k = k' + 1 → CP Ln (8 + 3 * k') ch n base 58 (6 - k') (pPiece ch n k') (2 * k' + 4) (n + 2 + k')) : CP Ln (8 + 3 * k) ch n base 58 (6 - k) (pPiece ch n k) (2 * k + 4) (n + 2 + k) := by
  intro D σ hD hT
  obtain ⟨D, rfl⟩ : ∃ D', D = D' + 5 := ⟨D - 5, by omega⟩
  refine ⟨fun h4 => vm_X8_readPiece _ _ ⟨fun z => absurd z h4, fun _ => rfl⟩, fun h4 h0 hn h7 h7q => ?_⟩
  obtain ⟨q, hq⟩ : ∃ q, σ 39 3 = q := ⟨_, rfl⟩
  obtain ⟨u, hu⟩ : ∃ u, σ 39 7 = u := ⟨_, rfl⟩
  have hsum := cp_sums (Ln := Ln) hG k hk
  have hgs := gd_sum hG.1 (gd_fac hG.1 (n := n) k)
  rw [hq] at h0 hn h7q
  rw [hu] at h7 h7q
  rw [hq, hu]
  have hgn := hG.2.2.1
  have hb := hG.2.2.2
  have hmo : k = 0 ∨ ∃ k', k = k' + 1 := by cases k; exact Or.inl rfl; exact Or.inr ⟨_, rfl⟩
  refine vm_X8_readPiece _ _ ⟨fun _ => cI (sp_peekC (d := D + 2) hG hT (by omega)) ?_, fun z => absurd h4 z⟩
  rintro r2 s1 ⟨rfl, hp⟩
  rw [hq] at hp
  have e33 := pkC_eq hG hp (c := 33) (by decide)
  have e40 := pkC_eq hG hp (c := 40) (by decide)
  have deep : k = 0 → ch q = 33 ∨ ch q = 40 → ∃ T : Option AV → AS → Prop, am_M Ln (D + 4) 63 [vR 39, vI (6 - (k : Int))] s1 T ∧ ∀ (r4 : Int) s3, T (some (vI r4)) s3 → r4 = 0 ∧ CQ base u q (2 * k + 4) (n + 2 + k) s1 (pPiece ch n k q) s3 := by
    rintro rfl hc
    refine cI (P := fun r s => r = 0 ∧ s = am_up (am_up s1 39 4 5) 39 5 q) (vm_X8_mayOpen _ _ ⟨fun y => absurd y (by omega), fun _ => cV (sp_fail0 h4) (fun s h => ?_)⟩) ?_
    · refine ⟨am_b0, rfl, ?_⟩
      rw [h, hq]
    · rintro r4 s3 ⟨rfl, rfl⟩
      refine ⟨rfl, ?_⟩
      have : pPiece ch n 0 q = .inl (5, q) := by
        rw [pPiece]
        rcases hc with z | z
        · rw [if_pos z]
        · by_cases z2 : ch q = 33
          · rw [if_pos z2]
          · rw [if_neg z2, if_pos z]
      rw [this]
      exact FP_new (up345 Fr.rf) up45_4 up45_5 hu (by omega) (q := q) (by rw [up45_3]; exact hq) ⟨h0, by omega⟩
  have may : ∀ k' : Nat, k = k' + 1 → am_M Ln (D + 4) 63 [vR 39, vI (6 - (k : Int))] s1 (am_rI fun r s => r = 1 ∧ s = am_up s1 39 3 (q + 1)) := fun k' e => vm_X8_mayOpen _ _ ⟨fun _ => ⟨am_b1, rfl, by rw [hq, w32_id (by omega) (by omega)]⟩, fun y => absurd (by omega) y⟩
  refine ⟨fun z => ?_, fun z => ⟨fun z2 => ?_, fun z2 => ?_⟩⟩
  · have hc := e33.mp z
    rcases hmo with h | ⟨k', rfl⟩
    · obtain ⟨T, t1, t2⟩ := deep h (Or.inl hc)
      exact ⟨T, t1, fun r4 s3 ht => ⟨fun _ => (t2 r4 s3 ht).2, fun y => absurd (t2 r4 s3 ht).1 y⟩⟩
    · refine cI (may k' rfl) ?_
      rintro r4 s3 ⟨rfl, rfl⟩
      refine ⟨fun y => absurd y (by decide), fun _ => ?_⟩
      rw [show w32 (6 - ((k' + 1 : Nat) : Int) + 1) = 6 - (k' : Int) by rw [w32_id (by omega) (by omega)]; omega]
      refine cq_not (dep := 6 - (k' : Int)) hG (gd_piece hG.1 k') (D := D + 4) (hP k' rfl) (by omega) (by omega) hT h4 hq hu ⟨h0, ch_lt hG.1 hc (by decide)⟩ ⟨h7, h7q⟩ (N' := 2 * ((k' + 1 : Nat) : Int) + 4) (B' := n + 2 + ((k' + 1 : Nat) : Int)) (by omega) (by omega) (fun s h => ?_)
      show CQ base u q _ _ s1 (pPiece ch n (k' + 1) q) s
      rw [pPiece, if_pos hc]
      exact h
  · have hc := e40.mp z2
    have hc33 : ch q ≠ 33 := by omega
    rcases hmo with h | ⟨k', rfl⟩
    · obtain ⟨T, t1, t2⟩ := deep h (Or.inr hc)
      exact ⟨T, t1, fun r4 s3 ht => ⟨fun _ => (t2 r4 s3 ht).2, fun y => absurd (t2 r4 s3 ht).1 y⟩⟩
    · refine cI (may k' rfl) ?_
      rintro r4 s3 ⟨rfl, rfl⟩
      refine ⟨fun y => absurd y (by decide), fun _ => ?_⟩
      rw [show w32 (6 - ((k' + 1 : Nat) : Int) + 1) = 6 - (k' : Int) by rw [w32_id (by omega) (by omega)]; omega]
      have hpart := cp_part hG (hP k' rfl) (gd_piece hG.1 k') (by omega)
      have hcond := cp_condC hG hpart (gd_seq hG.1 (by decide) (gd_piece hG.1 k') (fun _ _ _ _ h1 h2 => BO_and h1 h2)) (by omega)
      refine cq_in (meth := 56) (dep := 6 - (k' : Int)) hG (by decide) (gd_cond hG.1 (gd_piece hG.1 k')) (D := D + 4) hcond (by omega) (by omega) hT h4 hq hu ⟨h0, ch_lt hG.1 hc (by decide)⟩ ⟨h7, h7q⟩ (by omega) (N' := 2 * ((k' + 1 : Nat) : Int) + 4) (B' := n + 2 + ((k' + 1 : Nat) : Int)) (by omega) (by omega) (fun s h => ?_)
      show CQ base u q _ _ s1 (pPiece ch n (k' + 1) q) s
      rw [pPiece, if_neg hc33, if_pos hc]
      exact h
  · rw [pPiece_ne (fun y => z (e33.mpr y)) (fun y => z2 (e40.mpr y))]
    have hh := (hsum (D + 4) s1 (by omega) hT).2 h4 (by omega) (by omega) (by omega) (by omega)
    rw [hq, hu] at hh
    have hg := hgs q h0 hn
    refine cV hh ?_
    intro s12 h12
    unfold pCmp
    cases hr : pSum ch n (pFac ch n k) q with
    | inl e =>
      rw [hr] at h12 hg
      have hf0 : e.1 ≠ 0 := by have := hg.1; omega
      have hT12 := CT_fr hT h12.1
      refine cI (sp_peekC (d := D + 2) hG hT12 h12.2.2.2.2.2.1) ?_
      rintro r14 s13 ⟨rfl, -⟩
      refine cI (sp_cmpC (d := D + 3)) ?_
      rintro r16 s15 ⟨rfl, -⟩
      have h15 : FP base u (n + 1 + k) e.1 e.2 s1 s15 := h12
      have b3 := h15.2.2.2.2.2
      have e4 : s15 39 4 ≠ 0 := by rw [h15.2.2.2.1]; exact hf0
      have hF1 : FP base u (n + 2 + k) e.1 e.2 s1 (am_up s15 39 3 (w32 (s15 39 3 + 1))) := FP_at h15 (by rw [w32_id (by omega) (by omega)]; omega)
      have tail : ∀ r : Int, ∃ T : Option AV → AS → Prop, am_M Ln (D + 4) 59 [vR 39, vI (6 - (k : Int))] (am_up s15 39 3 (w32 (s15 39 3 + 1))) T ∧ ∀ s18, T none s18 → ∃ T : Option AV → AS → Prop, am_M Ln (D + 4) 67 [vR 39, vI r, vI 0] s18 T ∧ ∀ (r20 : Int) s19, T (some (vI r20)) s19 → FP base u (n + 2 + k) e.1 e.2 s1 s19 := by
        intro r
        refine cV ((hsum (D + 4) _ (by omega) (CT_fr hT hF1.1)).1 (by rw [hF1.2.2.2.1]; exact hf0)) ?_
        rintro s18 rfl
        exact cI (sp_emitF (d := D + 3) hF1 ((CT_fr hT hF1.1).2.1) h7 hb) (fun r s h => h.2.2.2)
      refine ⟨fun _ => cV (sp_fail1 e4) ?_, fun _ => tail r16⟩
      rintro s17 rfl
      exact tail r16
    | inr r =>
      rw [hr] at h12 hg
      have hr1 := hg.1
      have hT12 := CT_fr hT h12.1
      have x3 : s12 39 3 = r.1 := h12.2.2.2.1
      have x4 : s12 39 4 = 0 := h12.2.2.1
      refine cI (sp_peekC (d := D + 2) hG hT12 (by omega)) ?_
      rintro r14 s13 ⟨rfl, hp2⟩
      rw [x3] at hp2
      refine cI (sp_cmpC (d := D + 3)) ?_
      rintro r16 s15 ⟨rfl, hr16⟩
      by_cases e : isG (ch r.1) = true
      · have he := pk_op (op := isG) (by decide) hp2 e
        have hx := opx_G e
        rw [he.1, if_pos e] at hr16
        refine ⟨fun y => absurd y (by omega), fun _ => ?_⟩
        rw [x3, w32_id (x := r.1 + 1) (by omega) (by omega), hr16]
        dsimp only
        rw [if_pos e]
        refine bin_step hG hsum hgs (D := D + 4) (by omega) (by omega) hT (N := 2 * k + 3) (g := r.2) h12 ⟨h7, h7q⟩ ⟨by omega, he.2⟩ (w := opx (ch r.1)) (by omega) (fun s1' e1 hr2 hfp hf => ?_) (fun s1' r2 hr2 hgp hrn => ?_)
        · rw [hr2]
          exact FP_mo hfp (by omega)
        · rw [hr2]
          exact CQ_mo (B := 0) (R := .inr (r2.1, bing (opx (ch r.1)) r.2 r2.2)) hgp (by omega) (Int.le_refl 0)
      · have er : isG r14 = false := by
          rcases hp2 with ⟨p1, -⟩ | ⟨p1, -, -⟩
          · rw [p1]; cases hb : isG (ch r.1) with
            | true => exact absurd hb e
            | false => rfl
          · rw [p1]; rfl
        rw [er, if_neg (by decide)] at hr16
        refine ⟨fun _ => cV (sp_fail0 x4) ?_, fun y => absurd hr16 y⟩
        rintro s17 rfl
        dsimp only
        rw [if_neg e]
        have h15 : GP base u q r.1 (2 * k + 3) r.2 s1 s15 := h12
        obtain ⟨g1, g2, g4, g3, g7, g6⟩ := h15
        have hF0 : FP base u n 1 r.1 s1 (am_up (am_up s15 39 4 1) 39 5 (s15 39 3)) := ⟨Fr.up (Fr.up g1 (Or.inr (by decide))) (Or.inr (by decide)), fun j hj => by rw [am_up_ne (by decide), am_up_ne (by decide)]; exact g2 j hj, by rw [up45_7]; omega, up45_4, by rw [up45_5]; exact x3, by rw [up45_3]; omega⟩
        have hF1 : FP base u (n + 2 + k) 1 r.1 s1 (am_up (am_up (am_up s15 39 4 1) 39 5 (s15 39 3)) 39 3 (w32 ((am_up (am_up s15 39 4 1) 39 5 (s15 39 3)) 39 3 + 1))) := FP_at hF0 (by rw [up45_3, x3, w32_id (by omega) (by omega)]; omega)
        refine cV ((hsum (D + 4) _ (by omega) (CT_fr hT hF1.1)).1 (by rw [hF1.2.2.2.1]; decide)) ?_
        rintro s18 rfl
        exact cI (sp_emitF (d := D + 3) hF1 ((CT_fr hT hF1.1).2.1) h7 hb) (fun r s h => h.2.2.2)
theorem cp_pieces (hG : CG ch n base) : ∀ k : Nat, k ≤ 5 → CP Ln (8 + 3 * k) ch n base 58 (6 - k) (pPiece ch n k) (2 * k + 4) (n + 2 + k) := by
  intro k
  induction k with
  | zero => intro _; exact cp_piece hG (by omega) (fun k' h => by omega)
  | succ k ih =>
    intro hk
    refine cp_piece hG hk (fun k' h => ?_)
    obtain rfl : k' = k := by omega
    exact ih (by omega)
theorem cp_cond5 (hG : CG ch n base) : CP Ln 25 ch n base 56 1 (pCond ch n (pPiece ch n 5)) 14 (n + 7) := by
  have h := cp_pieces (Ln := Ln) hG 5 (by omega)
  have hpart := cp_part hG h (gd_piece hG.1 5) (by omega)
  rw [show (6 - ((5 : Nat) : Int)) = 1 by decide, show (2 * ((5 : Nat) : Int) + 4) = 14 by decide, show n + 2 + ((5 : Nat) : Int) = n + 7 by omega] at hpart
  exact cp_condC hG hpart (gd_seq hG.1 (by decide) (gd_piece hG.1 5) (fun _ _ _ _ h1 h2 => BO_and h1 h2)) (by omega)
end RP
