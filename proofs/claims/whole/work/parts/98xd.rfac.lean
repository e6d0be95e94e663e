/-! the class reads a factor -/
section RF
variable {Ln : Int} {d : Nat} {σ : AS} {ch : Int → Int} {n base : Int}
theorem sp_factC {a : Int} : am_M Ln (d + 1) 72 [vI a] σ (am_rI fun r s => s = σ ∧ r = fct a) := by
  refine vm_X8_fact _ _ ?_
  refine ⟨fun h => ⟨rfl, ?_⟩, fun h => ⟨rfl, ?_⟩, fun h => ⟨rfl, ?_⟩, fun h => ⟨rfl, ?_⟩, fun h => ⟨rfl, ?_⟩, fun h => ⟨rfl, ?_⟩, fun h => ⟨rfl, ?_⟩, fun h => ⟨rfl, ?_⟩, fun h => ⟨rfl, ?_⟩, fun h => ⟨rfl, ?_⟩, fun h => ⟨rfl, ?_⟩, fun h => ⟨rfl, ?_⟩, fun h => ⟨rfl, ?_⟩, fun h => ⟨rfl, ?_⟩, fun h => ⟨rfl, ?_⟩, fun h => ⟨rfl, ?_⟩, fun h => ⟨rfl, ?_⟩, fun h => ⟨rfl, ?_⟩, trivial⟩
  all_goals first
    | (rw [h]; decide)
    | (unfold fct; rw [if_neg (by omega), if_neg (by omega), if_neg (by omega), if_neg (by omega), if_neg (by omega), if_neg (by omega), if_neg (by omega), if_neg (by omega)])
theorem fct_rg (a : Int) : -1 ≤ fct a ∧ fct a < 8 := by
  unfold fct
  repeat' split
  all_goals omega
theorem sp_emitG {w v u : Int} (h7 : σ 39 7 = u) (h6 : σ 39 6 = base) (hu : 0 ≤ u ∧ u < 160) (hb : 0 ≤ base ∧ base ≤ 3040) : am_M Ln (d + 1) 67 [vR 39, vI w, vI v] σ (am_rI fun r s => r = u ∧ s = am_up (am_up σ 35 (base + u) (bOr (bShl v 4) w)) 39 7 (u + 1)) := by
  refine vm_X8_emit _ _ _ ?_
  rw [h7, h6, w32_id (x := base + u) (by omega) (by omega), w32_id (x := u + 1) (by omega) (by omega), w32_id (x := u + 1 - 1) (by omega) (by omega)]
  exact ⟨fun z => absurd z (by omega), fun _ => ⟨by omega, by omega, rfl⟩⟩
theorem FP_code {base u B f p x v : Int} {σ s : AS} (h : FP base u B f p σ s) (hx : base + u ≤ x) : FP base u B f p σ (am_up s 35 x v) := by
  obtain ⟨h1, h2, h3, h4, h5, h6⟩ := h
  refine ⟨h1.up (Or.inl (by decide)), fun j hj => ?_, ?_, ?_, ?_, ?_⟩
  · rw [am_up_eq, if_neg (by omega)]; exact h2 j hj
  · rw [am_up_ne (by decide)]; exact h3
  · rw [am_up_ne (by decide)]; exact h4
  · rw [am_up_ne (by decide)]; exact h5
  · rw [am_up_ne (by decide)]; exact h6
theorem FP_at {base u B B' f p x : Int} {σ s : AS} (h : FP base u B f p σ s) (hx : 0 ≤ x ∧ x ≤ B') : FP base u B' f p σ (am_up s 39 3 x) := by
  obtain ⟨h1, h2, h3, h4, h5, h6⟩ := h
  refine ⟨h1.up (Or.inr (by decide)), fun j hj => ?_, ?_, ?_, ?_, ?_⟩
  · rw [am_up_ne (by decide)]; exact h2 j hj
  · rw [am_up_eq, if_neg (by decide)]; exact h3
  · rw [am_up_eq, if_neg (by decide)]; exact h4
  · rw [am_up_eq, if_neg (by decide)]; exact h5
  · rw [am_up_eq, if_pos rfl]; exact hx
theorem FP_mo {base u B B' f p : Int} {σ s : AS} (h : FP base u B f p σ s) (hB : B ≤ B') : FP base u B' f p σ s := by
  obtain ⟨h1, h2, h3, h4, h5, h6⟩ := h
  exact ⟨h1, h2, h3, h4, h5, by omega⟩
theorem sp_emitF {u B f p w v : Int} {σ0 : AS} (h : FP base u B f p σ0 σ) (h6 : σ 39 6 = base) (hu : 0 ≤ u) (hb : 0 ≤ base ∧ base ≤ 3040) : am_M Ln (d + 1) 67 [vR 39, vI w, vI v] σ (am_rI fun r s => -1 ≤ r ∧ u - 1 ≤ r ∧ r ≤ 160 ∧ FP base u B f p σ0 s) := by
  have h7 := h.2.2.1
  refine vm_X8_emit _ _ _ ⟨fun z => ?_, fun z => ?_⟩
  · rw [w32_id (by omega) (by omega)]
    exact ⟨by omega, by omega, by omega, h⟩
  · rw [h6, w32_id (x := base + σ 39 7) (by omega) (by omega), w32_id (x := σ 39 7 + 1) (by omega) (by omega), w32_id (x := σ 39 7 + 1 - 1) (by omega) (by omega)]
    refine ⟨by omega, by omega, by omega, by omega, ?_⟩
    obtain ⟨g1, g2, g3, g4, g5, g6⟩ := FP_code (x := base + σ 39 7) (v := bOr (bShl v 4) w) h (by omega)
    refine ⟨g1.up (Or.inr (by decide)), fun j hj => ?_, ?_, ?_, ?_, ?_⟩
    · rw [am_up_ne (by decide)]; exact g2 j hj
    · rw [am_up_eq, if_pos rfl]; omega
    · rw [am_up_eq, if_neg (by decide)]; exact g4
    · rw [am_up_eq, if_neg (by decide)]; exact g5
    · rw [am_up_eq, if_neg (by decide)]; exact g6
theorem sp_aimF {u B f p w k : Int} {σ0 : AS} (h : FP base u B f p σ0 σ) (h6 : σ 39 6 = base) (hu : 0 ≤ u) (hb : 0 ≤ base ∧ base ≤ 3040) (hk : u - 1 ≤ k ∧ k ≤ 160) (hk2 : k = u - 1 → u = 0 ∨ σ 39 7 ≤ k ∨ k < 0) : am_M Ln (d + 1) 68 [vR 39, vI k, vI w] σ (am_rV (FP base u B f p σ0)) := by
  have h7 := h.2.2.1
  refine vm_X8_aim _ _ _ ⟨fun _ => h, fun z => ⟨fun _ => h, fun z2 => ?_⟩⟩
  rw [h6, w32_id (x := base + k) (by omega) (by omega)]
  exact ⟨by omega, FP_code h (by omega)⟩
theorem sp_passF {u B f p c : Int} {σ0 : AS} (hG : CG ch n base) (hT : CT ch n base σ) (h : FP base u B f p σ0 σ) (hf : f ≠ 0) (hB : B ≤ 1000) : am_M Ln (d + 3) 64 [vR 39, vI c] σ (am_rV (FP base u (B + 1) f p σ0)) := by
  have h3 := h.2.2.2.2.2
  have e4 : σ 39 4 ≠ 0 := by rw [h.2.2.2.1]; exact hf
  refine vm_X8_pass _ _ (cI (sp_peekC hG hT h3.1) ?_)
  rintro r s1 ⟨rfl, -⟩
  rw [w32_id (x := s1 39 3 + 1) (by omega) (by omega)]
  refine ⟨fun _ => FP_at h (by omega), fun _ => cV (sp_fail1 e4) ?_⟩
  rintro s3 rfl
  rw [w32_id (x := s3 39 3 + 1) (by omega) (by omega)]
  exact FP_at h (by omega)
theorem sp_passG {c q : Int} (hG : CG ch n base) (hT : CT ch n base σ) (h4 : σ 39 4 = 0) (h3 : σ 39 3 = q) (hq : 0 ≤ q ∧ q ≤ n) (hc : 0 < c) : am_M Ln (d + 3) 64 [vR 39, vI c] σ (am_rV fun s => (ch q = c → s = am_up σ 39 3 (q + 1)) ∧ (ch q ≠ c → s = am_up (am_up (am_up σ 39 4 1) 39 5 q) 39 3 (q + 1))) := by
  have hn := hG.2.2.1
  refine vm_X8_pass _ _ (cI (sp_peekC hG hT (by omega)) ?_)
  rintro r s1 ⟨rfl, hp⟩
  rw [h3] at hp
  have e := pkC_eq hG hp hc
  rw [h3, w32_id (x := q + 1) (by omega) (by omega)]
  refine ⟨fun z => ⟨fun _ => rfl, fun y => absurd (e.mp z) y⟩, fun z => cV (sp_fail0 h4) ?_⟩
  rintro s3 rfl
  rw [up45_3, h3, w32_id (x := q + 1) (by omega) (by omega)]
  exact ⟨fun y => absurd (e.mpr y) z, fun _ => rfl⟩
/-- what the class's reading of F means, from depth D0 -/
def CP (Ln : Int) (D0 : Nat) (ch : Int → Int) (n base : Int) (meth : Nat) (dep : Int) (F : Int → Rs) (N B : Int) : Prop := ∀ (D : Nat) (σ : AS), D0 ≤ D → CT ch n base σ → (σ 39 4 ≠ 0 → am_M Ln D meth [vR 39, vI dep] σ (am_rV fun s => s = σ)) ∧ (σ 39 4 = 0 → 0 ≤ σ 39 3 → σ 39 3 ≤ n → 0 ≤ σ 39 7 → σ 39 7 ≤ σ 39 3 → am_M Ln D meth [vR 39, vI dep] σ (am_rV (CQ base (σ 39 7) (σ 39 3) N B σ (F (σ 39 3)))))
theorem FP_new {u B f p q : Int} {s : AS} (h : Fr [] [(39, 3), (39, 4), (39, 5)] σ s) (h4 : s 39 4 = f) (h5 : s 39 5 = p) (h7 : σ 39 7 = u) (hu : u ≤ 160) (h3 : s 39 3 = q) (hq : 0 ≤ q ∧ q ≤ B) : FP base u B f p σ s := by
  refine ⟨h.mo (by decide) (by decide), fun j hj => by rw [h.cell 35 (by decide)], ?_, h4, h5, by omega⟩
  rw [h.fld 39 7 (by decide)]
  omega
theorem pFac_ne {k : Nat} {q : Int} (h : ch q ≠ 91) : pFac ch n k q = pBase ch q := by
  cases k with
  | zero => rw [pFac, if_neg h]
  | succ k => rw [pFac, if_neg h]
/-- brackets: what is in them is read, then what closes them -/
theorem cq_in {meth : Nat} {dep cl N B : Int} {S : Int → Rs} (hG : CG ch n base) (hcl : 0 < cl) {Z : GF → Prop} (hS : gdF n Z S) {D : Nat} {D0 : Nat} (hC : CP Ln D0 ch n base meth dep S N B) (hD : D0 ≤ D) (hD2 : 3 ≤ D) (hT : CT ch n base σ) (h4 : σ 39 4 = 0) {q u : Int} (h3 : σ 39 3 = q) (h7 : σ 39 7 = u) (hq : 0 ≤ q ∧ q < n) (hu : 0 ≤ u ∧ u ≤ q) (hB : n ≤ B ∧ B ≤ 1000) {N' B' : Int} (hN : N ≤ N') (hB' : B + 1 ≤ B') {Q : AS → Prop} (hQ : ∀ s, CQ base u q N' B' σ (pIn ch cl S q) s → Q s) :
    ∃ T : Option AV → AS → Prop, am_M Ln D meth [vR 39, vI dep] (am_up σ 39 3 (q + 1)) T ∧ ∀ s5, T none s5 → ∃ T : Option AV → AS → Prop, am_M Ln D 64 [vR 39, vI cl] s5 T ∧ ∀ s6, T none s6 → Q s6 := by
  obtain ⟨D', rfl⟩ : ∃ D', D = D' + 3 := ⟨D - 3, by omega⟩
  have hn := hG.2.2.1
  have f1 : Fr [] [(39, 3)] σ (am_up σ 39 3 (q + 1)) := Fr.up Fr.rf (Or.inr (by decide))
  have e3 : (am_up σ 39 3 (q + 1)) 39 3 = q + 1 := by rw [am_up_eq, if_pos rfl]
  have e4 : (am_up σ 39 3 (q + 1)) 39 4 = 0 := by rw [f1.fld 39 4 (by decide)]; exact h4
  have e7 : (am_up σ 39 3 (q + 1)) 39 7 = u := by rw [f1.fld 39 7 (by decide)]; exact h7
  have hT1 : CT ch n base (am_up σ 39 3 (q + 1)) := CT_fr hT (f1.mo (by decide) (by decide))
  have hh := (hC (D' + 3) _ hD hT1).2 e4 (by omega) (by omega) (by omega) (by omega)
  rw [e3, e7] at hh
  have hg := hS (q + 1) (by omega) (by omega)
  refine cV hh ?_
  intro s5 h5
  unfold pIn at hQ
  cases hr : S (q + 1) with
  | inl e =>
    rw [hr] at h5 hg hQ
    obtain ⟨g1, g2, g3, g4, g5, g6⟩ := h5
    have hF : FP base u B e.1 e.2 σ s5 := ⟨(f1.mo (by decide) (by decide)).tr g1, fun j hj => by rw [g2 j hj, f1.cell 35 (by decide)], g3, g4, g5, g6⟩
    refine cV (sp_passF (d := D') hG (CT_fr hT hF.1) hF (by have := hg.1; omega) (by omega)) (fun s6 h6 => hQ s6 (FP_mo h6 hB'))
  | inr r =>
    rw [hr] at h5 hg hQ
    obtain ⟨g1, g2, g4, g3, g7, g6⟩ := h5
    have hr1 := hg.1
    have fF : Fr cqX cqF σ s5 := (f1.mo (by decide) (by decide)).tr g1
    have e35 : ∀ j : Int, j < base + u → s5 35 j = σ 35 j := fun j hj => by rw [g2 j hj, f1.cell 35 (by decide)]
    refine cV (sp_passG (d := D') hG (CT_fr hT fF) g4 g3 (by omega) hcl) ?_
    rintro s6 ⟨k1, k2⟩
    refine hQ s6 ?_
    dsimp only
    by_cases z : ch r.1 = cl
    · rw [k1 z, if_pos z]
      refine ⟨fF.up (Or.inr (by decide)), fun j hj => by rw [am_up_ne (by decide)]; exact e35 j hj, by rw [am_up_eq, if_neg (by decide)]; exact g4, by rw [am_up_eq, if_pos rfl], by rw [am_up_eq, if_neg (by decide), am_up_eq, if_neg (by decide)]; have := f1.fld 39 5 (by decide); show u < s5 39 7 ∧ s5 39 7 - u ≤ r.1 + 1 - q ∧ s5 39 5 = σ 39 5; omega, ?_⟩
      rw [am_up_ne (by decide), am_up_eq, if_neg (by decide)]
      exact SX_mono g6 hN
    · rw [k2 z, if_neg z]
      refine ⟨Fr.up (Fr.up (Fr.up fF (Or.inr (by decide))) (Or.inr (by decide))) (Or.inr (by decide)), fun j hj => by rw [am_up_ne (by decide), am_up_ne (by decide), am_up_ne (by decide)]; exact e35 j hj, ?_, ?_, ?_, ?_⟩
      · rw [am_up_eq, if_neg (by decide), up45_7]; omega
      · rw [am_up_eq, if_neg (by decide), up45_4]
      · rw [am_up_eq, if_neg (by decide), up45_5]
      · rw [am_up_eq, if_pos rfl]; omega
theorem cp_fac (hG : CG ch n base) {k : Nat} (hk : k ≤ 5) (hS : ∀ k' : Nat, k = k' + 1 → CP Ln (7 + 3 * k') ch n base 59 (6 - k') (pSum ch n (pFac ch n k')) (2 * k' + 3) (n + 1 + k')) : CP Ln (5 + 3 * k) ch n base 61 (6 - k) (pFac ch n k) (2 * k + 1) (n + 1 + k) := by
  intro D σ hD hT
  obtain ⟨D, rfl⟩ : ∃ D', D = D' + 5 := ⟨D - 5, by omega⟩
  refine ⟨fun h4 => vm_X8_readFactor _ _ ⟨fun z => absurd z h4, fun _ => rfl⟩, fun h4 h0 hn h7 h7q => ?_⟩
  obtain ⟨q, hq⟩ : ∃ q, σ 39 3 = q := ⟨_, rfl⟩
  obtain ⟨u, hu⟩ : ∃ u, σ 39 7 = u := ⟨_, rfl⟩
  rw [hq] at h0 hn h7q
  rw [hu] at h7 h7q
  rw [hq, hu]
  have hgn := hG.2.2.1
  have hb := hG.2.2.2
  refine vm_X8_readFactor _ _ ⟨fun _ => cI (sp_peekC (d := D + 2) hG hT (by omega)) ?_, fun z => absurd h4 z⟩
  rintro r2 s1 ⟨rfl, hp⟩
  rw [hq] at hp
  have e91 := pkC_eq hG hp (c := 91) (by decide)
  refine ⟨fun z => ?_, fun z => ?_⟩
  · -- a bracket
    have hc := e91.mp z
    have hlt := ch_lt hG.1 hc (by decide)
    have hmo : k = 0 ∨ ∃ k', k = k' + 1 := by cases k; exact Or.inl rfl; exact Or.inr ⟨_, rfl⟩
    rcases hmo with rfl | ⟨k', rfl⟩
    · refine cI (P := fun r s => r = 0 ∧ s = am_up (am_up s1 39 4 5) 39 5 q) (vm_X8_mayOpen _ _ ⟨fun y => absurd y (by omega), fun _ => cV (sp_fail0 h4) (fun s h => ?_)⟩) ?_
      · refine ⟨am_b0, rfl, ?_⟩
        rw [h, hq]
      · rintro r4 s3 ⟨rfl, rfl⟩
        refine ⟨fun _ => ?_, fun y => absurd rfl y⟩
        show CQ base u q _ _ s1 (pFac ch n 0 q) _
        rw [pFac, if_pos hc]
        exact FP_new (up345 Fr.rf) up45_4 up45_5 hu (by omega) (q := q) (by rw [up45_3]; exact hq) ⟨h0, by omega⟩
    · refine cI (P := fun r s => r = 1 ∧ s = am_up s1 39 3 (q + 1)) (vm_X8_mayOpen _ _ ⟨fun _ => ⟨am_b1, rfl, by rw [hq, w32_id (by omega) (by omega)]⟩, fun y => absurd (by omega) y⟩) ?_
      rintro r4 s3 ⟨rfl, rfl⟩
      refine ⟨fun y => absurd y (by decide), fun _ => ?_⟩
      rw [show w32 (6 - ((k' + 1 : Nat) : Int) + 1) = 6 - (k' : Int) by rw [w32_id (by omega) (by omega)]; omega]
      refine cq_in (meth := 59) (dep := 6 - (k' : Int)) hG (by decide) (gd_sum hG.1 (gd_fac hG.1 k')) (D := D + 4) (hS k' rfl) (by omega) (by omega) hT h4 hq hu ⟨h0, hlt⟩ ⟨h7, h7q⟩ (by omega) (N' := 2 * ((k' + 1 : Nat) : Int) + 1) (B' := n + 1 + ((k' + 1 : Nat) : Int)) (by omega) (by omega) (fun s h => ?_)
      show CQ base u q _ _ s1 (pFac ch n (k' + 1) q) s
      rw [pFac, if_pos hc]
      exact h
  · have hc : ch q ≠ 91 := fun y => z (e91.mpr y)
    rw [pFac_ne hc]
    refine cI (sp_isDigitC (d := D + 3)) ?_
    rintro r8 s7 ⟨rfl, hd⟩
    rw [pkC_D hp] at hd
    refine ⟨fun y => ?_, fun y => ?_⟩
    · have hnd : ¬ isD (ch q) = true := fun y2 => (hd.mpr y2) y
      refine cI (sp_factC (d := D + 3)) ?_
      rintro r10 s9 ⟨rfl, rfl⟩
      have ef : fct r2 = -1 ↔ fct (ch q) = -1 := by
        rcases hp with ⟨p1, -⟩ | ⟨p1, p2, -⟩
        · rw [p1]
        · rw [p1, p2]; decide
      have hrg := fct_rg (ch q)
      refine ⟨fun x => cV (sp_fail0 h4) ?_, fun x => cI (sp_factC (d := D + 3)) ?_⟩
      · rintro s11 rfl
        have : pBase ch q = .inl (1, q) := by
          unfold pBase
          rw [if_neg hnd, if_neg (by have := ef.mp x; omega)]
        show CQ base u q _ _ s9 (pBase ch q) _
        rw [this, hq]
        exact FP_new (up345 Fr.rf) up45_4 up45_5 hu (by omega) (q := q) (by rw [up45_3]; exact hq) ⟨h0, by omega⟩
      · rintro r13 s12 ⟨rfl, rfl⟩
        have x' : ¬ fct (ch q) = -1 := fun w => x (ef.mpr w)
        have er : r2 = ch q ∧ q < n := by
          rcases hp with p1 | ⟨p1, p2, -⟩
          · exact p1
          · rw [p2] at x'; exact absurd (by decide) x'
        rw [er.1]
        refine cI (sp_emitG (d := D + 3) hu hT.2.1 (by omega) hb) ?_
        rintro r15 s14 ⟨rfl, rfl⟩
        have : pBase ch q = .inr (q + 1, fun f => some (f (fct (ch q)))) := by
          unfold pBase
          rw [if_neg hnd, if_pos (by omega)]
        show CQ base r15 q _ _ s12 (pBase ch q) _
        rw [this, cw_make (v := fct (ch q)) (w := 1) (by omega) (by decide)]
        have e3 : (am_up (am_up s12 35 (base + r15) (16 * fct (ch q) + 1)) 39 7 (r15 + 1)) 39 3 = q := by rw [am_up_eq, if_neg (by decide), am_up_ne (by decide)]; exact hq
        rw [e3, w32_id (x := q + 1) (by omega) (by omega)]
        have e7 : (am_up (am_up (am_up s12 35 (base + r15) (16 * fct (ch q) + 1)) 39 7 (r15 + 1)) 39 3 (q + 1)) 39 7 = r15 + 1 := by rw [am_up_eq, if_neg (by decide), am_up_eq, if_pos rfl]
        have e35 : ∀ j, (am_up (am_up (am_up s12 35 (base + r15) (16 * fct (ch q) + 1)) 39 7 (r15 + 1)) 39 3 (q + 1)) 35 j = if j = base + r15 then 16 * fct (ch q) + 1 else s12 35 j := fun j => by rw [am_up_ne (by decide), am_up_ne (by decide), am_up_eq]
        refine ⟨Fr.up (Fr.up (Fr.up Fr.rf (Or.inl (by decide))) (Or.inr (by decide))) (Or.inr (by decide)), fun j hj => by rw [e35, if_neg (by omega)], ?_, ?_, ?_, ?_⟩
        · rw [am_up_eq, if_neg (by decide), am_up_eq, if_neg (by decide), am_up_ne (by decide)]; exact h4
        · rw [am_up_eq, if_pos rfl]
        · rw [e7, am_up_eq, if_neg (by decide), am_up_eq, if_neg (by decide), am_up_ne (by decide)]; exact ⟨by omega, by show r15 + 1 - r15 ≤ q + 1 - q; omega, rfl⟩
        · rw [e7, show base + (r15 + 1) = base + r15 + 1 by omega]
          exact SX_mono (SX_let (by omega) (by omega) (by rw [e35, if_pos rfl])) (by omega)
    · have hd' := hd.mp y
      refine cI (sp_readNumber (d := D) hG hT (by decide) h4 (by omega) (by omega)) ?_
      intro r17 s16 hN
      rw [hq] at hN
      have hg := gd_num (n := n) hG.1 (lim := 999999) h0 hn
      show ∃ T : Option AV → AS → Prop, am_M Ln (D + 4) 67 [vR 39, vI 0, vI r17] s16 T ∧ ∀ (r19 : Int) s18, T (some (vI r19)) s18 → CQ base u q _ _ s7 (pBase ch q) s18
      unfold pBase
      rw [if_pos hd']
      cases hh : pNum ch 999999 q with
      | inl e =>
        rw [hh] at hN hg
        obtain ⟨g1, g2, g3, g4, g5⟩ := hN
        have hF : FP base u (n + 1 + k) e.1 e.2 s7 s16 := FP_new g1 g2 g3 hu (by omega) rfl ⟨g4, by omega⟩
        exact cI (sp_emitF (d := D + 3) hF (by rw [g1.fld 39 6 (by decide)]; exact hT.2.1) h7 hb) (fun r s h => h.2.2.2)
      | inr x =>
        rw [hh] at hN hg
        obtain ⟨g1, g2, g3, g4, g5, g5b, g5'⟩ := hN
        have v7 : s16 39 7 = u := by rw [g1.fld 39 7 (by decide)]; exact hu
        refine cI (sp_emitG (d := D + 3) v7 (by rw [g1.fld 39 6 (by decide)]; exact hT.2.1) (by omega) hb) ?_
        rintro r19 s18 ⟨rfl, rfl⟩
        rw [g4, cw_make (v := x.2) (w := 0) (by omega) (by decide)]
        have e7 : (am_up (am_up s16 35 (base + r19) (16 * x.2 + 0)) 39 7 (r19 + 1)) 39 7 = r19 + 1 := by rw [am_up_eq, if_pos rfl]
        have e35 : ∀ j, (am_up (am_up s16 35 (base + r19) (16 * x.2 + 0)) 39 7 (r19 + 1)) 35 j = if j = base + r19 then 16 * x.2 + 0 else s7 35 j := fun j => by rw [am_up_ne (by decide), am_up_eq, g1.cell 35 (by decide)]
        refine ⟨Fr.up (Fr.up (g1.mo (by decide) (by decide)) (Or.inl (by decide))) (Or.inr (by decide)), fun j hj => by rw [e35, if_neg (by omega)], ?_, ?_, ?_, ?_⟩
        · rw [am_up_eq, if_neg (by decide), am_up_ne (by decide)]; exact g2
        · rw [am_up_eq, if_neg (by decide), am_up_ne (by decide)]; exact g3
        · rw [e7, am_up_eq, if_neg (by decide), am_up_ne (by decide)]; exact ⟨by omega, by show r19 + 1 - r19 ≤ x.1 - q; omega, g5'⟩
        · rw [e7, show base + (r19 + 1) = base + r19 + 1 by omega]
          exact SX_mono (SX_num (by omega) (by omega) (by rw [e35, if_pos rfl])) (by omega)
end RF
