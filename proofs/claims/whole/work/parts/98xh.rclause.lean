/-! the class reads a clause -/
def rdX : List Nat := [29, 30, 31, 32, 33, 34, 35]
def CFr (r c top : Int) (σ σ' : AS) : Prop := Fr rdX cqF σ σ' ∧ (∀ j : Int, j < top → σ' 35 j = σ 35 j) ∧ (∀ x : Int, x ≠ c → σ' 30 x = σ 30 x ∧ σ' 31 x = σ 31 x ∧ σ' 32 x = σ 32 x ∧ σ' 33 x = σ 33 x ∧ σ' 34 x = σ 34 x) ∧ ∀ x : Int, x ≠ r → σ' 29 x = σ 29 x
section CF
variable {r c top : Int} {σ s s' : AS}
theorem CFr.rf : CFr r c top σ σ := ⟨Fr.rf, fun _ _ => rfl, fun _ _ => ⟨rfl, rfl, rfl, rfl, rfl⟩, fun _ _ => rfl⟩
theorem CFr.tr (h : CFr r c top σ s) (h2 : CFr r c top s s') : CFr r c top σ s' := by
  obtain ⟨a1, a2, a3, a4⟩ := h
  obtain ⟨b1, b2, b3, b4⟩ := h2
  refine ⟨a1.tr b1, fun j hj => (b2 j hj).trans (a2 j hj), fun x hx => ?_, fun x hx => (b4 x hx).trans (a4 x hx)⟩
  obtain ⟨p1, p2, p3, p4, p5⟩ := a3 x hx
  obtain ⟨q1, q2, q3, q4, q5⟩ := b3 x hx
  exact ⟨q1.trans p1, q2.trans p2, q3.trans p3, q4.trans p4, q5.trans p5⟩
theorem CFr_cq (h : Fr cqX cqF σ s) (h2 : ∀ j : Int, j < top → s 35 j = σ 35 j) : CFr r c top σ s :=
  ⟨h.mo (by decide) (by decide), h2, fun x _ => ⟨by rw [h.cell 30 (by decide)], by rw [h.cell 31 (by decide)], by rw [h.cell 32 (by decide)], by rw [h.cell 33 (by decide)], by rw [h.cell 34 (by decide)]⟩, fun x _ => by rw [h.cell 29 (by decide)]⟩
theorem CFr_39 {i v : Int} (h : CFr r c top σ s) (hi : (39, i) ∈ cqF) : CFr r c top σ (am_up s 39 i v) := by
  refine h.tr ⟨Fr.up Fr.rf (Or.inr hi), fun j _ => by rw [am_up_ne (by decide)], fun x _ => ⟨?_, ?_, ?_, ?_, ?_⟩, fun x _ => ?_⟩ <;> rw [am_up_ne (by decide)]
theorem CFr_c {k : Nat} {v : Int} (h : CFr r c top σ s) (hk : k = 30 ∨ k = 31 ∨ k = 32 ∨ k = 33 ∨ k = 34) : CFr r c top σ (am_up s k c v) := by
  have e : ∀ (k' : Nat) (x : Int), x ≠ c → am_up s k c v k' x = s k' x := fun k' x hx => by
    by_cases z : k' = k
    · rw [z, am_up_eq, if_neg hx]
    · rw [am_up_ne z]
  refine h.tr ⟨Fr.up Fr.rf (Or.inl ?_), fun j _ => ?_, fun x hx => ⟨e 30 x hx, e 31 x hx, e 32 x hx, e 33 x hx, e 34 x hx⟩, fun x hx => ?_⟩
  · rcases hk with z | z | z | z | z <;> rw [z] <;> decide
  · rw [am_up_ne (by omega)]
  · rw [am_up_ne (by omega)]
theorem CFr_29 {v : Int} (h : CFr r c top σ s) : CFr r c top σ (am_up s 29 r v) :=
  h.tr ⟨Fr.up Fr.rf (Or.inl (by decide)), fun j _ => by rw [am_up_ne (by decide)], fun x _ => ⟨by rw [am_up_ne (by decide)], by rw [am_up_ne (by decide)], by rw [am_up_ne (by decide)], by rw [am_up_ne (by decide)], by rw [am_up_ne (by decide)]⟩, fun x hx => by rw [am_up_eq, if_neg hx]⟩
end CF
theorem CT_rd {ch : Int → Int} {n base : Int} {σ σ' : AS} (h : CT ch n base σ) (hf : Fr rdX cqF σ σ') : CT ch n base σ' := by
  unfold CT
  rw [hf.fld 39 2 (by decide), hf.fld 39 6 (by decide), hf.fld 2 1 (by decide), hf.cell 3 (by decide)]
  exact h
/-- a clause with a fault -/
def KF (r c top B : Int) (e : Int × Int) (σ s : AS) : Prop := CFr r c top σ s ∧ s 39 4 = e.1 ∧ s 39 5 = e.2 ∧ (0 ≤ s 39 7 ∧ s 39 7 ≤ 160) ∧ 0 ≤ s 39 3 ∧ s 39 3 ≤ B
section KFS
variable {Ln : Int} {d : Nat} {ch : Int → Int} {n base : Int} {r c top B : Int} {e : Int × Int} {σ s : AS}
theorem KF_at {B' x : Int} (h : KF r c top B e σ s) (hx : 0 ≤ x ∧ x ≤ B') : KF r c top B' e σ (am_up s 39 3 x) := by
  obtain ⟨h1, h2, h3, h4, h5⟩ := h
  refine ⟨CFr_39 h1 (by decide), ?_, ?_, ?_, ?_⟩
  · rw [am_up_eq, if_neg (by decide)]; exact h2
  · rw [am_up_eq, if_neg (by decide)]; exact h3
  · rw [am_up_eq, if_neg (by decide)]; exact h4
  · rw [am_up_eq, if_pos rfl]; exact hx
theorem KF_c {k : Nat} {v : Int} (h : KF r c top B e σ s) (hk : k = 30 ∨ k = 31 ∨ k = 32 ∨ k = 33 ∨ k = 34) : KF r c top B e σ (am_up s k c v) := by
  obtain ⟨h1, h2, h3, h4, h5⟩ := h
  refine ⟨CFr_c h1 hk, ?_, ?_, ?_, ?_⟩ <;> rw [am_up_ne (by omega)] <;> assumption
theorem KF_29 {v : Int} (h : KF r c top B e σ s) : KF r c top B e σ (am_up s 29 r v) := by
  obtain ⟨h1, h2, h3, h4, h5⟩ := h
  refine ⟨CFr_29 h1, ?_, ?_, ?_, ?_⟩ <;> rw [am_up_ne (by decide)] <;> assumption
theorem KF_mo {B' : Int} (h : KF r c top B e σ s) (hB : B ≤ B') : KF r c top B' e σ s := ⟨h.1, h.2.1, h.2.2.1, h.2.2.2.1, h.2.2.2.2.1, by have := h.2.2.2.2.2; omega⟩
theorem KF_pass {k : Int} (hG : CG ch n base) (hT : CT ch n base σ) (h : KF r c top B e σ s) (he : e.1 ≠ 0) (hB : B ≤ 1000) (htop : top ≤ base) : am_M Ln (d + 3) 64 [vR 39, vI k] s (am_rV (KF r c top (B + 1) e σ)) := by
  obtain ⟨h1, h2, h3, h4, h5⟩ := h
  have hF : FP base 0 B e.1 e.2 s s := ⟨Fr.rf, fun _ _ => rfl, h4, h2, h3, h5⟩
  refine am_MV (sp_passF hG (CT_rd hT h1.1) hF he hB) ?_
  rintro s' ⟨g1, g2, g3, g4, g5, g6⟩
  exact ⟨h1.tr (CFr_cq g1 (fun j hj => g2 j (by omega))), g4, g5, g3, g6⟩
end KFS
section TB
variable {Ln : Int} {ch : Int → Int} {n base : Int} {r c u : Int} {σ : AS} {D : Nat}
/-- the rest of a clause with a fault: body -/
theorem tb2_F (hG : CG ch n base) (hT : CT ch n base σ) (hD : 25 ≤ D) {top B : Int} {e : Int × Int} {s10 : AS} (h : KF r c top B e σ s10) (he : e.1 ≠ 0) (hB : B ≤ 900) (htop : top ≤ base) (hc : 0 ≤ c ∧ c < 240) {K : AS → Prop} (hK : ∀ s, KF r c top (B + 1) e σ s → K s) :
    (0 ≤ c ∧ c < 240) ∧ (∃ T : Option AV → AS → Prop, am_M Ln D 56 [vR 39, vI 1] (am_up s10 33 c (w32 (s10 39 6 + (s10 39 7)))) T ∧ ∀ s11, T none s11 → ∃ T : Option AV → AS → Prop, am_M Ln D 64 [vR 39, vI 41] s11 T ∧ ∀ s12, T none s12 → (0 ≤ c ∧ c < 240) ∧ K (am_up s12 34 c (w32 (s12 39 6 + (s12 39 7))))) := by
  obtain ⟨D', rfl⟩ : ∃ D', D = D' + 3 := ⟨D - 3, by omega⟩
  have h2 := KF_c (k := 33) (v := w32 (s10 39 6 + (s10 39 7))) h (by omega)
  refine ⟨hc, cV ((cp_cond5 hG (D' + 3) _ hD (CT_rd hT h2.1.1)).1 (by rw [h2.2.1]; exact he)) ?_⟩
  rintro s11 rfl
  exact cV (KF_pass (d := D') hG hT h2 he (by omega) htop) (fun s12 h3 => ⟨hc, hK _ (KF_c h3 (by omega))⟩)
theorem tb_F (hG : CG ch n base) (hT : CT ch n base σ) (hD : 25 ≤ D) {top B : Int} {e : Int × Int} {s : AS} (h : KF r c top B e σ s) (he : e.1 ≠ 0) (hB : B ≤ 800) (htop : top ≤ base) (hc : 0 ≤ c ∧ c < 240) {K : AS → Prop} (hK : ∀ s, KF r c top (B + 2) e σ s → K s) :
    ∃ T : Option AV → AS → Prop, am_M Ln D 64 [vR 39, vI 40] s T ∧ ∀ s10, T none s10 → (0 ≤ c ∧ c < 240) ∧ (∃ T : Option AV → AS → Prop, am_M Ln D 56 [vR 39, vI 1] (am_up s10 33 c (w32 (s10 39 6 + (s10 39 7)))) T ∧ ∀ s11, T none s11 → ∃ T : Option AV → AS → Prop, am_M Ln D 64 [vR 39, vI 41] s11 T ∧ ∀ s12, T none s12 → (0 ≤ c ∧ c < 240) ∧ K (am_up s12 34 c (w32 (s12 39 6 + (s12 39 7))))) := by
  obtain ⟨D', rfl⟩ : ∃ D', D = D' + 3 := ⟨D - 3, by omega⟩
  exact cV (KF_pass (d := D') hG hT h he (by omega) htop) (fun s10 h2 => tb2_F hG hT hD h2 he (by omega) htop hc (fun s h3 => hK s (KF_mo h3 (by omega))))
/-- the rest of a clause: number, point, number, with a fault -/
theorem tx_F (hG : CG ch n base) (hT : CT ch n base σ) (hD : 25 ≤ D) {top B : Int} {e : Int × Int} {s : AS} (h : KF r c top B e σ s) (he : e.1 ≠ 0) (hB : B ≤ 800) (htop : top ≤ base) (hc : 0 ≤ c ∧ c < 240) {K : AS → Prop} (hK : ∀ s, KF r c top (B + 2) e σ s → K s) :
    ∃ T : Option AV → AS → Prop, am_M Ln D 64 [vR 39, vI 46] s T ∧ ∀ s5, T none s5 → ∃ T : Option AV → AS → Prop, am_M Ln D 62 [vR 39, vI 11] s5 T ∧ ∀ (r7 : Int) s6, T (some (vI r7)) s6 → (0 ≤ c ∧ c < 240) ∧ K (am_up s6 32 c r7) := by
  obtain ⟨D', rfl⟩ : ∃ D', D = D' + 4 := ⟨D - 4, by omega⟩
  refine cV (KF_pass (d := D' + 1) hG hT h he (by omega) htop) (fun s5 h2 => cI (sp_readNumberF (d := D') (by rw [h2.2.1]; exact he)) ?_)
  rintro r7 s6 rfl
  exact ⟨hc, hK _ (KF_mo (KF_c h2 (by omega)) (by omega))⟩
/-- the clause so far: nothing wrong -/
def KG (r c u q1 : Int) (σ s : AS) (base : Int) : Prop := CFr r c (base + u) σ s ∧ s 39 4 = 0 ∧ s 39 5 = σ 39 5 ∧ s 39 3 = q1 ∧ s 39 7 = u
theorem KG_c {k : Nat} {v q1 : Int} {s : AS} (h : KG r c u q1 σ s base) (hk : k = 30 ∨ k = 31 ∨ k = 32 ∨ k = 33 ∨ k = 34) : KG r c u q1 σ (am_up s k c v) base := by
  obtain ⟨h1, h2, h3, h4, h5⟩ := h
  refine ⟨CFr_c h1 hk, ?_, ?_, ?_, ?_⟩ <;> rw [am_up_ne (by omega)] <;> assumption
theorem KG_fail {f p q1 x B : Int} {s : AS} (h : KG r c u q1 σ s base) (hu : 0 ≤ u ∧ u ≤ 160) (hx : 0 ≤ x ∧ x ≤ B) : KF r c (base + u) B (f, p) σ (am_up (am_up (am_up s 39 4 f) 39 5 p) 39 3 x) := by
  obtain ⟨h1, h2, h3, h4, h5⟩ := h
  refine ⟨CFr_39 (CFr_39 (CFr_39 h1 (by decide)) (by decide)) (by decide), ?_, ?_, ?_, ?_⟩
  · rw [am_up_eq, if_neg (by decide), up45_4]
  · rw [am_up_eq, if_neg (by decide), up45_5]
  · rw [am_up_eq, if_neg (by decide), up45_7]; omega
  · rw [am_up_eq, if_pos rfl]; exact hx
/-- a body is read -/
def GB (r c u q' : Int) (g : GF) (σ ρ s : AS) (base : Int) : Prop := CFr r c (base + u) σ s ∧ s 39 4 = 0 ∧ s 39 5 = σ 39 5 ∧ s 39 3 = q' ∧ (u ≤ s 39 7 ∧ s 39 7 ≤ q') ∧ (s 30 c = ρ 30 c ∧ s 31 c = ρ 31 c ∧ s 29 = ρ 29) ∧ SX (s 35) (s 33 c) (s 34 c) 39 g ∧ s 34 c = base + s 39 7
theorem tb_G (hG : CG ch n base) (hT : CT ch n base σ) (hD : 25 ≤ D) {q1 : Int} {ρ : AS} (h : KG r c u q1 σ ρ base) (hq : 0 ≤ q1 ∧ q1 ≤ n) (hu : 0 ≤ u ∧ u ≤ q1) (hc : 0 ≤ c ∧ c < 240) {f : Int} {K : AS → Prop} (hK1 : ∀ e s, pBody ch n (q1, f) = .inl e → KF r c base (n + 9) e σ s → K s) (hK2 : ∀ x s, pBody ch n (q1, f) = .inr x → GB r c u x.1 x.2.2.2 σ ρ s base → K s) :
    ∃ T : Option AV → AS → Prop, am_M Ln D 64 [vR 39, vI 40] ρ T ∧ ∀ s10, T none s10 → (0 ≤ c ∧ c < 240) ∧ (∃ T : Option AV → AS → Prop, am_M Ln D 56 [vR 39, vI 1] (am_up s10 33 c (w32 (s10 39 6 + (s10 39 7)))) T ∧ ∀ s11, T none s11 → ∃ T : Option AV → AS → Prop, am_M Ln D 64 [vR 39, vI 41] s11 T ∧ ∀ s12, T none s12 → (0 ≤ c ∧ c < 240) ∧ K (am_up s12 34 c (w32 (s12 39 6 + (s12 39 7))))) := by
  obtain ⟨D', rfl⟩ : ∃ D', D = D' + 3 := ⟨D - 3, by omega⟩
  have hn := hG.2.2.1
  have hb := hG.2.2.2
  obtain ⟨h1, h2, h3, h4, h5⟩ := id h
  have hTr := CT_rd hT h1.1
  have top : ∀ {B : Int} {e : Int × Int} {s : AS}, KF r c (base + u) B e σ s → KF r c base B e σ s := fun hh => ⟨⟨hh.1.1, fun j hj => hh.1.2.1 j (by omega), hh.1.2.2⟩, hh.2⟩
  refine cV (sp_passG (d := D') hG hTr h2 h4 hq (c := 40) (by decide)) ?_
  rintro s10 ⟨k1, k2⟩
  by_cases z : ch q1 = 40
  · rw [k1 z]
    have hlt := ch_lt hG.1 z (by decide)
    refine ⟨hc, ?_⟩
    have x6 : (am_up ρ 39 3 (q1 + 1)) 39 6 = base := by rw [am_up_eq, if_neg (by decide)]; exact hTr.2.1
    have x7 : (am_up ρ 39 3 (q1 + 1)) 39 7 = u := by rw [am_up_eq, if_neg (by decide)]; exact h5
    rw [x6, x7, w32_id (x := base + u) (by omega) (by omega)]
    have cm : am_up (am_up ρ 39 3 (q1 + 1)) 33 c (base + u) = am_up (am_up ρ 33 c (base + u)) 39 3 (q1 + 1) := by
      rw [up_zc, up_zc, up_zc, up_zc, zc_ne (by decide), zc_ne (by decide), zc_comm (by decide)]
    rw [cm]
    have hg := KG_c (k := 33) (v := base + u) h (by omega)
    refine cq_in (meth := 56) (dep := 1) hG (by decide) (gd_cond hG.1 (gd_piece hG.1 5)) (D := D' + 3) (cp_cond5 hG) hD (by omega) (CT_rd hT hg.1.1) hg.2.1 hg.2.2.2.1 hg.2.2.2.2 ⟨hq.1, hlt⟩ hu (by omega) (N' := 39) (B' := n + 8) (by omega) (by omega) (Q := fun s12 => (0 ≤ c ∧ c < 240) ∧ K (am_up s12 34 c (w32 (s12 39 6 + (s12 39 7))))) (fun s12 hs => ⟨hc, ?_⟩)
    cases hr : pIn ch 41 (pCond ch n (pPiece ch n 5)) q1 with
    | inl e =>
      rw [hr] at hs
      obtain ⟨g1, g2, g3, g4, g5, g6⟩ := hs
      have hbd : pBody ch n (q1, f) = .inl e := by unfold pBody; dsimp only; rw [if_pos z, hr]
      refine hK1 e _ hbd (KF_c (top ⟨hg.1.tr (CFr_cq g1 g2), g4, g5, by omega, by omega⟩) (by omega))
    | inr x =>
      rw [hr] at hs
      obtain ⟨g1, g2, g4, g3, g7, g6⟩ := hs
      have hbd : pBody ch n (q1, f) = .inr (x.1, f, 0, x.2) := by unfold pBody; dsimp only; rw [if_pos z, hr]
      have e12 : CFr r c (base + u) σ s12 := hg.1.tr (CFr_cq g1 g2)
      have y6 : s12 39 6 = base := (CT_rd hT e12.1).2.1
      have y5 : s12 39 5 = σ 39 5 := by rw [g7.2.2]; exact hg.2.2.1
      have gI := gd_in hG.1 (cl := 41) (by decide) (gd_cond hG.1 (gd_piece hG.1 5)) hq.1 hlt
      rw [hr] at gI
      have gx := gI.1
      rw [y6, w32_id (x := base + s12 39 7) (by omega) (by omega)]
      refine hK2 _ _ hbd ⟨CFr_c e12 (by omega), ?_, ?_, ?_, ?_, ⟨?_, ?_, ?_⟩, ?_, ?_⟩
      · rw [am_up_ne (by decide)]; exact g4
      · rw [am_up_ne (by decide)]; exact y5
      · rw [am_up_ne (by decide)]; exact g3
      · rw [am_up_ne (by decide)]; show u ≤ s12 39 7 ∧ s12 39 7 ≤ x.1; omega
      · rw [am_up_ne (by decide), g1.cell 30 (by decide), am_up_ne (by decide)]
      · rw [am_up_ne (by decide), g1.cell 31 (by decide), am_up_ne (by decide)]
      · rw [am_up_ne (by decide), g1.cell 29 (by decide), am_up_ne (by decide)]
      · rw [am_up_ne (by decide : 35 ≠ 34), am_up_ne (by decide : 33 ≠ 34), am_up_eq, if_pos rfl, g1.cell 33 (by decide), am_up_eq, if_pos rfl]
        exact g6
      · rw [am_up_eq, if_pos rfl, am_up_ne (by decide)]
  · rw [k2 z]
    have hbd : pBody ch n (q1, f) = .inl (1, q1) := by unfold pBody; dsimp only; rw [if_neg z]
    exact tb2_F (D := D' + 3) hG hT hD (top (KG_fail (f := 1) (p := q1) (x := q1 + 1) (B := n + 1) h (by omega) (by omega))) (by show (1 : Int) ≠ 0; decide) (by omega) (Int.le_refl base) hc (fun s hs => hK1 (1, q1) s hbd (KF_mo hs (by omega)))
end TB
