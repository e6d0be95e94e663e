/-! the class reads terms, sums, parts, conditions -/
section RO
variable {Ln : Int} {d : Nat} {σ : AS} {ch : Int → Int} {n base : Int}
theorem opLoop_no {op : Int → Bool} {F : Int → Rs} {cb : Int → GF → GF → GF} {m : Nat} {q : Int} {g : GF} (h : op (ch q) = false) : opLoop ch op F cb m q g = .inr (q, g) := by
  cases m with
  | zero => rfl
  | succ m => rw [opLoop, if_neg (by rw [h]; decide)]
theorem sp_mulC {a : Int} : am_M Ln (d + 1) 71 [vI a] σ (am_rI fun r s => s = σ ∧ r = if isT a = true then opx a else -1) := by
  refine vm_X8_multiplication _ _ ⟨fun h => ⟨rfl, by rw [h]; rfl⟩, fun h => ⟨rfl, by rw [h]; rfl⟩, fun h => ⟨rfl, by rw [h]; rfl⟩, fun h => ⟨rfl, ?_⟩, trivial⟩
  obtain ⟨h1, h2, h3, -⟩ := h
  have : isT a = false := decide_eq_false (by omega)
  rw [this, if_neg (by decide)]
theorem opx_T {c : Int} (h : isT c = true) : 7 ≤ opx c ∧ opx c ≤ 9 := by
  have : c = 42 ∨ c = 47 ∨ c = 37 := of_decide_eq_true h
  rcases this with z | z | z <;> rw [z] <;> decide
theorem pk_op {op : Int → Bool} (h0 : op 0 = false) {r q : Int} (h : (r = ch q ∧ q < n) ∨ (r = -1 ∧ ch q = 0 ∧ n ≤ q)) (hop : op (ch q) = true) : r = ch q ∧ q < n := by
  rcases h with p | ⟨p1, p2, -⟩
  · exact p
  · rw [p2, h0] at hop; cases hop
/-- one more operand, and its operator behind it -/
theorem bin_step (hG : CG ch n base) {meth D0 : Nat} {dep NF B : Int} {F : Int → Rs} (hC : CP Ln D0 ch n base meth dep F NF B) {Z : GF → Prop} (hF : gdF n Z F) {D : Nat} (hD : D0 ≤ D) (hD1 : 1 ≤ D) {σ0 s : AS} (hT0 : CT ch n base σ0) {u0 q0 q N w : Int} {g : GF} (hs : GP base u0 q0 q N g σ0 s) (hu0 : 0 ≤ u0 ∧ u0 ≤ q0) (hq : q0 ≤ q ∧ q < n) (hw : 5 ≤ w ∧ w ≤ 12) {K : AS → Prop}
    (h1 : ∀ s1 e, F (q + 1) = .inl e → FP base u0 B e.1 e.2 σ0 s1 → (1 ≤ e.1 ∧ e.1 ≤ 5) → K s1) (h2 : ∀ s1 r, F (q + 1) = .inr r → GP base u0 q0 r.1 (max N (NF + 1)) (bing w g r.2) σ0 s1 → (q < r.1 ∧ r.1 ≤ n) → K s1) :
    ∃ T : Option AV → AS → Prop, am_M Ln D meth [vR 39, vI dep] (am_up s 39 3 (q + 1)) T ∧ ∀ s9, T none s9 → ∃ T : Option AV → AS → Prop, am_M Ln D 67 [vR 39, vI w, vI 0] s9 T ∧ ∀ (r11 : Int) s10, T (some (vI r11)) s10 → K s10 := by
  obtain ⟨D', rfl⟩ : ∃ D', D = D' + 1 := ⟨D - 1, by omega⟩
  have hn := hG.2.2.1
  have hb := hG.2.2.2
  obtain ⟨g1, g2, g4, g3, g7, g6⟩ := hs
  have f1 : Fr [] [(39, 3)] s (am_up s 39 3 (q + 1)) := Fr.up Fr.rf (Or.inr (by decide))
  have e3 : (am_up s 39 3 (q + 1)) 39 3 = q + 1 := by rw [am_up_eq, if_pos rfl]
  have e4 : (am_up s 39 3 (q + 1)) 39 4 = 0 := by rw [f1.fld 39 4 (by decide)]; exact g4
  have e7 : (am_up s 39 3 (q + 1)) 39 7 = s 39 7 := f1.fld 39 7 (by decide)
  have e35 : (am_up s 39 3 (q + 1)) 35 = s 35 := f1.cell 35 (by decide)
  have fA : Fr cqX cqF σ0 (am_up s 39 3 (q + 1)) := g1.tr (f1.mo (by decide) (by decide))
  have hh := (hC (D' + 1) _ hD (CT_fr hT0 fA)).2 e4 (by omega) (by omega) (by omega) (by omega)
  rw [e3, e7] at hh
  have hg := hF (q + 1) (by omega) (by omega)
  refine cV hh ?_
  intro s9 h9
  cases hr : F (q + 1) with
  | inl e =>
    rw [hr] at h9 hg
    obtain ⟨k1, k2, k3, k4, k5, k6⟩ := h9
    have hFP : FP base u0 B e.1 e.2 σ0 s9 := ⟨fA.tr k1, fun j hj => by rw [k2 j (by omega), e35, g2 j hj], by omega, k4, k5, k6⟩
    exact cI (sp_emitF (d := D') hFP ((CT_fr hT0 hFP.1).2.1) hu0.1 hb) (fun r s h => h1 s e hr h.2.2.2 hg.1)
  | inr r =>
    rw [hr] at h9 hg
    obtain ⟨k1, k2, k4, k3, k7, k6⟩ := h9
    have hr1 := hg.1
    have fB : Fr cqX cqF σ0 s9 := fA.tr k1
    refine cI (sp_emitG (d := D') (u := s9 39 7) rfl ((CT_fr hT0 fB).2.1) (by omega) hb) ?_
    rintro r11 s10 ⟨rfl, rfl⟩
    rw [cw_make (v := 0) (w := w) (by omega) (by omega)]
    have x7 : (am_up (am_up s9 35 (base + s9 39 7) (16 * 0 + w)) 39 7 (s9 39 7 + 1)) 39 7 = s9 39 7 + 1 := by rw [am_up_eq, if_pos rfl]
    have x35 : ∀ j, (am_up (am_up s9 35 (base + s9 39 7) (16 * 0 + w)) 39 7 (s9 39 7 + 1)) 35 j = if j = base + s9 39 7 then 16 * 0 + w else s9 35 j := fun j => by rw [am_up_ne (by decide), am_up_eq]
    have S1 : SX ((am_up (am_up s9 35 (base + s9 39 7) (16 * 0 + w)) 39 7 (s9 39 7 + 1)) 35) (base + u0) (base + s 39 7) N g := SX_congr g6 (fun j j0 j1 => by rw [x35, if_neg (by omega), k2 j (by omega), e35])
    have S2 : SX ((am_up (am_up s9 35 (base + s9 39 7) (16 * 0 + w)) 39 7 (s9 39 7 + 1)) 35) (base + s 39 7) (base + s9 39 7) NF r.2 := SX_congr k6 (fun j j0 j1 => by rw [x35, if_neg (by omega)])
    refine h2 _ r hr ⟨Fr.up (Fr.up fB (Or.inl (by decide))) (Or.inr (by decide)), fun j hj => by rw [x35, if_neg (by omega), k2 j (by omega), e35, g2 j hj], ?_, ?_, ?_, ?_⟩ (by omega)
    · rw [am_up_eq, if_neg (by decide), am_up_ne (by decide)]; exact k4
    · rw [am_up_eq, if_neg (by decide), am_up_ne (by decide)]; exact k3
    · rw [x7, am_up_eq, if_neg (by decide), am_up_ne (by decide)]; have := f1.fld 39 5 (by decide); omega
    · rw [x7, show base + (s9 39 7 + 1) = base + s9 39 7 + 1 by omega]
      exact SX_bin S1 S2 hw (by rw [x35, if_pos rfl])
theorem lp_term (hG : CG ch n base) {D0 : Nat} {dep NF B : Int} {F : Int → Rs} (hC : CP Ln D0 ch n base 61 dep F NF B) (hF : gdF n ZT F) {D : Nat} (hD : D0 ≤ D) (hD1 : 2 ≤ D) {σ0 : AS} (hT0 : CT ch n base σ0) {u0 q0 : Int} (hu0 : 0 ≤ u0 ∧ u0 ≤ q0) (hq0 : q0 ≤ n) : ∀ (m : Nat) (q : Int) (g : GF) (s : AS), (n - q).toNat ≤ m → q0 ≤ q → q ≤ n → GP base u0 q0 q (NF + 1) g σ0 s →
    am_E Ln D 60 5 [vR 39, vI dep, vU] [] s (am_rV (CQ base u0 q0 (NF + 1) B σ0 (opLoop ch isT F (fun c => bing (opx c)) m q g))) := by
  obtain ⟨D', rfl⟩ : ∃ D', D = D' + 2 := ⟨D - 2, by omega⟩
  have hn := hG.2.2.1
  intro m
  induction m with
  | zero =>
    intro q g s hm hq hqn hs
    have hT := CT_fr hT0 hs.1
    exact vl_X8_readTerm_5 _ _ ⟨fun _ => ⟨fun _ => hs, fun z => absurd (by rw [hT.1, hs.2.2.2.1]; omega) z⟩, fun z => absurd hs.2.2.1 z⟩
  | succ m ih =>
    intro q g s hm hq hqn hs
    have hT := CT_fr hT0 hs.1
    have h3 := hs.2.2.2.1
    refine vl_X8_readTerm_5 _ _ ⟨fun _ => ⟨fun z => ?_, fun z => cI (sp_peekC (d := D') hG hT (by omega)) ?_⟩, fun z => absurd hs.2.2.1 z⟩
    · rw [hT.1, h3] at z
      rw [opLoop_no (by rw [hG.1 q z]; rfl)]
      exact hs
    · rintro r2 s1 ⟨rfl, hp⟩
      rw [h3] at hp
      refine cI (sp_mulC (d := D' + 1)) ?_
      rintro r4 s3 ⟨rfl, hr4⟩
      by_cases e : isT (ch q) = true
      · have he := pk_op (op := isT) (by decide) hp e
        have hx := opx_T e
        rw [he.1, if_pos e] at hr4
        refine ⟨fun y => absurd y (by omega), fun _ => cI (sp_peekC (d := D') hG hT (by omega)) ?_⟩
        rintro r6 s5 ⟨rfl, hp2⟩
        rw [h3] at hp2
        refine cI (sp_mulC (d := D' + 1)) ?_
        rintro r8 s7 ⟨rfl, hr8⟩
        rw [(pk_op (op := isT) (by decide) hp2 e).1, if_pos e] at hr8
        rw [hr8, h3, w32_id (x := q + 1) (by omega) (by omega), opLoop, if_pos e]
        refine bin_step hG hC hF (D := D' + 2) hD (by omega) hT0 hs hu0 ⟨hq, he.2⟩ (w := opx (ch q)) (by omega) (fun s1 e1 hr hfp hf => ?_) (fun s1 r hr hgp hrn => ?_)
        · rw [hr]
          exact vl_X8_readTerm_5 _ _ ⟨fun y => absurd y (by rw [hfp.2.2.2.1]; omega), fun _ => hfp⟩
        · rw [hr]
          exact ih r.1 _ s1 (by omega) (by omega) hrn.2 (by rw [show max (NF + 1) (NF + 1) = NF + 1 by omega] at hgp; exact hgp)
      · have er : isT r2 = false := by
          rcases hp with ⟨p1, -⟩ | ⟨p1, -, -⟩
          · rw [p1]; cases hb : isT (ch q) with
            | true => exact absurd hb e
            | false => rfl
          · rw [p1]; rfl
        rw [er, if_neg (by decide)] at hr4
        refine ⟨fun _ => ?_, fun y => absurd hr4 y⟩
        rw [opLoop, if_neg e]
        exact hs
theorem CQ_mo {u q N N' B B' : Int} {R : Rs} {s : AS} (h : CQ base u q N B σ R s) (hN : N ≤ N') (hB : B ≤ B') : CQ base u q N' B' σ R s := by
  cases R with
  | inl e => exact FP_mo h hB
  | inr r =>
    obtain ⟨g1, g2, g4, g3, g7, g6⟩ := h
    exact ⟨g1, g2, g4, g3, g7, SX_mono g6 hN⟩
theorem cp_term (hG : CG ch n base) {D0 : Nat} {dep NF B : Int} {F : Int → Rs} (hC : CP Ln D0 ch n base 61 dep F NF B) (hF : gdF n ZT F) (h1 : 2 ≤ D0) : CP Ln (D0 + 1) ch n base 60 dep (pTerm ch n F) (NF + 1) B := by
  intro D σ hD hT
  obtain ⟨D, rfl⟩ : ∃ D', D = D' + 1 := ⟨D - 1, by omega⟩
  have hc := hC D σ (by omega) hT
  refine ⟨fun h4 => vm_X8_readTerm _ _ (cV (hc.1 h4) ?_), fun h4 h0 hn h7 h7q => vm_X8_readTerm _ _ (cV (hc.2 h4 h0 hn h7 h7q) ?_)⟩
  · rintro s rfl
    exact vl_X8_readTerm_5 _ _ ⟨fun y => absurd y h4, fun _ => rfl⟩
  · intro s hs
    have hg := hF (σ 39 3) h0 hn
    unfold pTerm opSeq
    cases hr : F (σ 39 3) with
    | inl e =>
      rw [hr] at hs hg
      exact vl_X8_readTerm_5 _ _ ⟨fun y => absurd y (by rw [hs.2.2.2.1]; have := hg.1; omega), fun _ => hs⟩
    | inr r =>
      rw [hr] at hs hg
      have := hg.1
      exact lp_term hG hC hF (by omega) (by omega) hT ⟨h7, h7q⟩ hn _ r.1 r.2 s (Nat.le_refl _) (by omega) this.2 (CQ_mo (R := .inr r) hs (by omega) (Int.le_refl _))
theorem lp_sum (hG : CG ch n base) {D0 : Nat} {dep NF B : Int} {F : Int → Rs} (hC : CP Ln D0 ch n base 60 dep F NF B) (hF : gdF n ZT F) {D : Nat} (hD : D0 ≤ D) (hD1 : 2 ≤ D) {σ0 : AS} (hT0 : CT ch n base σ0) {u0 q0 : Int} (hu0 : 0 ≤ u0 ∧ u0 ≤ q0) (hq0 : q0 ≤ n) : ∀ (m : Nat) (q : Int) (g : GF) (s : AS), (n - q).toNat ≤ m → q0 ≤ q → q ≤ n → GP base u0 q0 q (NF + 1) g σ0 s →
    am_E Ln D 59 5 [vR 39, vI dep, vU] [] s (am_rV (CQ base u0 q0 (NF + 1) B σ0 (opLoop ch isP F (fun c => bing (opx c)) m q g))) := by
  obtain ⟨D', rfl⟩ : ∃ D', D = D' + 2 := ⟨D - 2, by omega⟩
  have hn := hG.2.2.1
  intro m
  induction m with
  | zero =>
    intro q g s hm hq hqn hs
    have hT := CT_fr hT0 hs.1
    exact vl_X8_readSum_5 _ _ ⟨fun _ => ⟨fun _ => hs, fun z => absurd (by rw [hT.1, hs.2.2.2.1]; omega) z⟩, fun z => absurd hs.2.2.1 z⟩
  | succ m ih =>
    intro q g s hm hq hqn hs
    have hT := CT_fr hT0 hs.1
    have h3 := hs.2.2.2.1
    have go : ∀ (w : Int), ch q = 43 ∨ ch q = 45 → w = opx (ch q) → ∃ T : Option AV → AS → Prop, am_M Ln (D' + 2) 60 [vR 39, vI dep] (am_up s 39 3 (q + 1)) T ∧ ∀ s9, T none s9 → ∃ T : Option AV → AS → Prop, am_M Ln (D' + 2) 67 [vR 39, vI w, vI 0] s9 T ∧ ∀ (r11 : Int) s10, T (some (vI r11)) s10 → am_E Ln (D' + 2) 59 5 [vR 39, vI dep, vU] [] s10 (am_rV (CQ base u0 q0 (NF + 1) B σ0 (opLoop ch isP F (fun c => bing (opx c)) (m + 1) q g))) := by
      intro w hc hw
      have e : isP (ch q) = true := decide_eq_true hc
      have hlt : q < n := by rcases hc with z | z <;> exact ch_lt hG.1 z (by decide)
      rw [hw, opLoop, if_pos e]
      refine bin_step hG hC hF (D := D' + 2) hD (by omega) hT0 hs hu0 ⟨hq, hlt⟩ (w := opx (ch q)) (by rcases hc with z | z <;> rw [z] <;> decide) (fun s1 e1 hr hfp hf => ?_) (fun s1 r hr hgp hrn => ?_)
      · rw [hr]
        exact vl_X8_readSum_5 _ _ ⟨fun y => absurd y (by rw [hfp.2.2.2.1]; omega), fun _ => hfp⟩
      · rw [hr]
        exact ih r.1 _ s1 (by omega) (by omega) hrn.2 (by rw [show max (NF + 1) (NF + 1) = NF + 1 by omega] at hgp; exact hgp)
    refine vl_X8_readSum_5 _ _ ⟨fun _ => ⟨fun z => ?_, fun z => cI (sp_peekC (d := D') hG hT (by omega)) ?_⟩, fun z => absurd hs.2.2.1 z⟩
    · rw [hT.1, h3] at z
      rw [opLoop_no (by rw [hG.1 q z]; rfl)]
      exact hs
    · rintro r2 s1 ⟨rfl, hp⟩
      rw [h3] at hp
      have e43 := pkC_eq hG hp (c := 43) (by decide)
      refine ⟨fun y => cI (sp_peekC (d := D') hG hT (by omega)) ?_, fun y => cI (sp_peekC (d := D') hG hT (by omega)) ?_⟩
      · rintro r4 s3 ⟨rfl, hp2⟩
        rw [h3] at hp2
        have f43 := pkC_eq hG hp2 (c := 43) (by decide)
        rw [h3, w32_id (x := q + 1) (by omega) (by omega)]
        exact ⟨fun x => go 5 (Or.inl (f43.mp x)) (by rw [f43.mp x]; rfl), fun x => absurd (f43.mpr (e43.mp y)) x⟩
      · rintro r12 s11 ⟨rfl, hp2⟩
        rw [h3] at hp2
        have f45 := pkC_eq hG hp2 (c := 45) (by decide)
        refine ⟨fun x => cI (sp_peekC (d := D') hG hT (by omega)) ?_, fun x => ?_⟩
        · rintro r14 s13 ⟨rfl, hp3⟩
          rw [h3] at hp3
          have k43 := pkC_eq hG hp3 (c := 43) (by decide)
          rw [h3, w32_id (x := q + 1) (by omega) (by omega)]
          exact ⟨fun v => absurd (e43.mpr (k43.mp v)) y, fun _ => go 6 (Or.inr (f45.mp x)) (by rw [f45.mp x]; rfl)⟩
        · have : isP (ch q) = false := decide_eq_false (fun v => by
            rcases v with v | v
            · exact y (e43.mpr v)
            · exact x (f45.mpr v))
          rw [opLoop_no this]
          exact hs
theorem cp_sum (hG : CG ch n base) {D0 : Nat} {dep NF B : Int} {F : Int → Rs} (hC : CP Ln D0 ch n base 60 dep F NF B) (hF : gdF n ZT F) (h1 : 2 ≤ D0) : CP Ln (D0 + 1) ch n base 59 dep (opSeq ch n isP F (fun c => bing (opx c))) (NF + 1) B := by
  intro D σ hD hT
  obtain ⟨D, rfl⟩ : ∃ D', D = D' + 1 := ⟨D - 1, by omega⟩
  have hc := hC D σ (by omega) hT
  refine ⟨fun h4 => vm_X8_readSum _ _ (cV (hc.1 h4) ?_), fun h4 h0 hn h7 h7q => vm_X8_readSum _ _ (cV (hc.2 h4 h0 hn h7 h7q) ?_)⟩
  · rintro s rfl
    exact vl_X8_readSum_5 _ _ ⟨fun y => absurd y h4, fun _ => rfl⟩
  · intro s hs
    have hg := hF (σ 39 3) h0 hn
    unfold opSeq
    cases hr : F (σ 39 3) with
    | inl e =>
      rw [hr] at hs hg
      exact vl_X8_readSum_5 _ _ ⟨fun y => absurd y (by rw [hs.2.2.2.1]; have := hg.1; omega), fun _ => hs⟩
    | inr r =>
      rw [hr] at hs hg
      have := hg.1
      exact lp_sum hG hC hF (by omega) (by omega) hT ⟨h7, h7q⟩ hn _ r.1 r.2 s (Nat.le_refl _) (by omega) this.2 (CQ_mo (R := .inr r) hs (by omega) (Int.le_refl _))
/-- all sums, at each depth -/
theorem cp_sums (hG : CG ch n base) : ∀ k : Nat, k ≤ 5 → CP Ln (7 + 3 * k) ch n base 59 (6 - k) (pSum ch n (pFac ch n k)) (2 * k + 3) (n + 1 + k) := by
  have step : ∀ k : Nat, CP Ln (5 + 3 * k) ch n base 61 (6 - k) (pFac ch n k) (2 * k + 1) (n + 1 + k) → CP Ln (7 + 3 * k) ch n base 59 (6 - k) (pSum ch n (pFac ch n k)) (2 * k + 3) (n + 1 + k) := by
    intro k h
    have h1 := cp_term hG h (gd_fac hG.1 k) (by omega)
    have h2 := cp_sum hG h1 (gd_seq hG.1 (by decide) (gd_fac hG.1 k) (fun _ _ _ _ _ _ => trivial)) (by omega)
    rw [show (5 + 3 * k + 1 + 1 : Nat) = 7 + 3 * k by omega, show (2 * (k : Int) + 1 + 1 + 1) = 2 * k + 3 by omega] at h2
    exact h2
  intro k
  induction k with
  | zero => intro _; exact step 0 (cp_fac hG (by omega) (fun k' h => by omega))
  | succ k ih =>
    intro hk
    refine step (k + 1) (cp_fac hG hk (fun k' h => ?_))
    obtain rfl : k' = k := by omega
    exact ih (by omega)
/-- one more piece, skipped if what is ahead of it decides -/
theorem jn_step (hG : CG ch n base) {meth D0 : Nat} {dep NF B : Int} {F : Int → Rs} (hC : CP Ln D0 ch n base meth dep F NF B) {Z : GF → Prop} (hF : gdF n Z F) {D : Nat} (hD : D0 ≤ D) (hD1 : 1 ≤ D) {σ0 s : AS} (hT0 : CT ch n base σ0) {u0 q0 q N w : Int} {g : GF} (hs : GP base u0 q0 q N g σ0 s) (hu0 : 0 ≤ u0 ∧ u0 ≤ q0) (hq : q0 ≤ q ∧ q < n) (hw : 0 ≤ w ∧ w < 16) {cb : GF → GF → GF} (hSX : ∀ (K : Int → Int) (a b b2 : Int) (g1 g2 : GF), SX K a b N g1 → SX K (b + 1) b2 NF g2 → (b2 ≤ 3200 → K b = 16 * b2 + w) → SX K a b2 (max N NF) (cb g1 g2)) {K : AS → Prop}
    (h1 : ∀ s1 e, F (q + 1) = .inl e → FP base u0 B e.1 e.2 σ0 s1 → (1 ≤ e.1 ∧ e.1 ≤ 5) → K s1) (h2 : ∀ s1 r, F (q + 1) = .inr r → GP base u0 q0 r.1 (max N NF) (cb g r.2) σ0 s1 → (q < r.1 ∧ r.1 ≤ n) → K s1) :
    ∃ T : Option AV → AS → Prop, am_M Ln D 67 [vR 39, vI w, vI 0] (am_up s 39 3 (q + 1)) T ∧ ∀ (r4 : Int) s3, T (some (vI r4)) s3 → ∃ T : Option AV → AS → Prop, am_M Ln D meth [vR 39, vI dep] s3 T ∧ ∀ s5, T none s5 → ∃ T : Option AV → AS → Prop, am_M Ln D 68 [vR 39, vI r4, vI w] s5 T ∧ ∀ s6, T none s6 → K s6 := by
  obtain ⟨D', rfl⟩ : ∃ D', D = D' + 1 := ⟨D - 1, by omega⟩
  have hn := hG.2.2.1
  have hb := hG.2.2.2
  obtain ⟨g1, g2, g4, g3, g7, g6⟩ := hs
  obtain ⟨u, hu⟩ : ∃ u, u = s 39 7 := ⟨_, rfl⟩
  have f1 : Fr [] [(39, 3)] s (am_up s 39 3 (q + 1)) := Fr.up Fr.rf (Or.inr (by decide))
  have e7 : (am_up s 39 3 (q + 1)) 39 7 = u := by rw [hu]; exact f1.fld 39 7 (by decide)
  have fA : Fr cqX cqF σ0 (am_up s 39 3 (q + 1)) := g1.tr (f1.mo (by decide) (by decide))
  refine cI (sp_emitG (d := D') (u := u) e7 ((CT_fr hT0 fA).2.1) (by omega) hb) ?_
  rintro r4 s3 ⟨hr4, hs3⟩
  have f3 : Fr [35] [(39, 3), (39, 7)] s s3 := by
    rw [hs3]
    exact Fr.up (Fr.up (f1.mo (by decide) (by decide)) (Or.inl (by decide))) (Or.inr (by decide))
  have x3 : s3 39 3 = q + 1 := by rw [hs3, am_up_eq, if_neg (by decide), am_up_ne (by decide), am_up_eq, if_pos rfl]
  have x7 : s3 39 7 = u + 1 := by rw [hs3, am_up_eq, if_pos rfl]
  have x4 : s3 39 4 = 0 := by rw [f3.fld 39 4 (by decide)]; exact g4
  have x35 : ∀ j, j ≠ base + u → s3 35 j = s 35 j := fun j hj => by rw [hs3, am_up_ne (by decide), am_up_eq, if_neg hj, am_up_ne (by decide)]
  have fB : Fr cqX cqF σ0 s3 := g1.tr (f3.mo (by decide) (by decide))
  have hh := (hC (D' + 1) s3 hD (CT_fr hT0 fB)).2 x4 (by omega) (by omega) (by omega) (by omega)
  rw [x3, x7] at hh
  have hg := hF (q + 1) (by omega) (by omega)
  refine cV hh ?_
  intro s9 h9
  cases hr : F (q + 1) with
  | inl e =>
    rw [hr] at h9 hg
    obtain ⟨k1, k2, k3, k4, k5, k6⟩ := h9
    have hFP : FP base u0 B e.1 e.2 σ0 s9 := ⟨fB.tr k1, fun j hj => by rw [k2 j (by omega), x35 j (by omega), g2 j hj], by omega, k4, k5, k6⟩
    exact cV (sp_aimF (d := D') hFP ((CT_fr hT0 hFP.1).2.1) hu0.1 hb (by omega) (fun z => by omega)) (fun s h => h1 s e hr h hg.1)
  | inr r =>
    rw [hr] at h9 hg
    obtain ⟨k1, k2, k4, k3, k7, k6⟩ := h9
    have hr1 := hg.1
    have fC : Fr cqX cqF σ0 s9 := fB.tr k1
    refine cV (P := fun s6 => s6 = am_up s9 35 (base + u) (16 * (base + s9 39 7) + w)) (vm_X8_aim _ _ _ ⟨fun z => absurd z (by omega), fun _ => ⟨fun z => absurd z (by omega), fun _ => ?_⟩⟩) ?_
    · rw [(CT_fr hT0 fC).2.1, hr4, w32_id (x := base + u) (by omega) (by omega), w32_id (x := base + s9 39 7) (by omega) (by omega), cw_make (v := base + s9 39 7) (w := w) (by omega) hw]
      exact ⟨by omega, rfl⟩
    · rintro s6 rfl
      have y35 : ∀ j, (am_up s9 35 (base + u) (16 * (base + s9 39 7) + w)) 35 j = if j = base + u then 16 * (base + s9 39 7) + w else s9 35 j := fun j => by rw [am_up_eq]
      have y7 : (am_up s9 35 (base + u) (16 * (base + s9 39 7) + w)) 39 7 = s9 39 7 := by rw [am_up_ne (by decide)]
      have S1 : SX ((am_up s9 35 (base + u) (16 * (base + s9 39 7) + w)) 35) (base + u0) (base + u) N g := SX_congr (by rw [hu]; exact g6) (fun j j0 j1 => by rw [y35, if_neg (by omega), k2 j (by omega), x35 j (by omega)])
      have S2 : SX ((am_up s9 35 (base + u) (16 * (base + s9 39 7) + w)) 35) (base + u + 1) (base + s9 39 7) NF r.2 := SX_congr (by rw [show base + u + 1 = base + (u + 1) by omega]; exact k6) (fun j j0 j1 => by rw [y35, if_neg (by omega)])
      refine h2 _ r hr ⟨fC.up (Or.inl (by decide)), fun j hj => by rw [y35, if_neg (by omega), k2 j (by omega), x35 j (by omega), g2 j hj], ?_, ?_, ?_, ?_⟩ (by omega)
      · rw [am_up_ne (by decide)]; exact k4
      · rw [am_up_ne (by decide)]; exact k3
      · rw [y7, am_up_ne (by decide)]; have := f3.fld 39 5 (by decide); omega
      · rw [y7]
        exact hSX _ _ _ _ _ _ S1 S2 (fun _ => by rw [y35, if_pos rfl])
theorem lp_part (hG : CG ch n base) {D0 : Nat} {dep NF B : Int} {F : Int → Rs} (hC : CP Ln D0 ch n base 58 dep F NF B) (hF : gdF n BO F) {D : Nat} (hD : D0 ≤ D) (hD1 : 2 ≤ D) {σ0 : AS} (hT0 : CT ch n base σ0) {u0 q0 : Int} (hu0 : 0 ≤ u0 ∧ u0 ≤ q0) (hq0 : q0 ≤ n) : ∀ (m : Nat) (q : Int) (g : GF) (s : AS), (n - q).toNat ≤ m → q0 ≤ q → q ≤ n → GP base u0 q0 q NF g σ0 s →
    am_E Ln D 57 5 [vR 39, vI dep, vU] [] s (am_rV (CQ base u0 q0 NF B σ0 (opLoop ch isA F (fun _ => andg) m q g))) := by
  obtain ⟨D', rfl⟩ : ∃ D', D = D' + 2 := ⟨D - 2, by omega⟩
  have hn := hG.2.2.1
  intro m
  induction m with
  | zero =>
    intro q g s hm hq hqn hs
    have hT := CT_fr hT0 hs.1
    exact vl_X8_readPart_5 _ _ ⟨fun _ => ⟨fun _ => hs, fun z => absurd (by rw [hT.1, hs.2.2.2.1]; omega) z⟩, fun z => absurd hs.2.2.1 z⟩
  | succ m ih =>
    intro q g s hm hq hqn hs
    have hT := CT_fr hT0 hs.1
    have h3 := hs.2.2.2.1
    refine vl_X8_readPart_5 _ _ ⟨fun _ => ⟨fun z => ?_, fun z => cI (sp_peekC (d := D') hG hT (by omega)) ?_⟩, fun z => absurd hs.2.2.1 z⟩
    · rw [hT.1, h3] at z
      rw [opLoop_no (by rw [hG.1 q z]; rfl)]
      exact hs
    · rintro r2 s1 ⟨rfl, hp⟩
      rw [h3] at hp
      have e38 := pkC_eq hG hp (c := 38) (by decide)
      refine ⟨fun y => ?_, fun y => ?_⟩
      · have hc := e38.mp y
        rw [h3, w32_id (x := q + 1) (by omega) (by omega), opLoop, if_pos (show isA (ch q) = true from decide_eq_true hc)]
        refine jn_step hG hC hF (D := D' + 2) hD (by omega) hT0 hs hu0 ⟨hq, ch_lt hG.1 hc (by decide)⟩ (w := 3) (by decide) (cb := andg) (fun K a b b2 g1 g2 a1 a2 a3 => SX_and a1 a2 a3) (fun s1 e1 hr hfp hf => ?_) (fun s1 r hr hgp hrn => ?_)
        · rw [hr]
          exact vl_X8_readPart_5 _ _ ⟨fun y => absurd y (by rw [hfp.2.2.2.1]; omega), fun _ => hfp⟩
        · rw [hr]
          exact ih r.1 _ s1 (by omega) (by omega) hrn.2 (by rw [show max NF NF = NF by omega] at hgp; exact hgp)
      · rw [opLoop_no (show isA (ch q) = false from decide_eq_false (fun v => y (e38.mpr v)))]
        exact hs
theorem cp_part (hG : CG ch n base) {D0 : Nat} {dep NF B : Int} {F : Int → Rs} (hC : CP Ln D0 ch n base 58 dep F NF B) (hF : gdF n BO F) (h1 : 2 ≤ D0) : CP Ln (D0 + 1) ch n base 57 dep (pPart ch n F) NF B := by
  intro D σ hD hT
  obtain ⟨D, rfl⟩ : ∃ D', D = D' + 1 := ⟨D - 1, by omega⟩
  have hc := hC D σ (by omega) hT
  refine ⟨fun h4 => vm_X8_readPart _ _ (cV (hc.1 h4) ?_), fun h4 h0 hn h7 h7q => vm_X8_readPart _ _ (cV (hc.2 h4 h0 hn h7 h7q) ?_)⟩
  · rintro s rfl
    exact vl_X8_readPart_5 _ _ ⟨fun y => absurd y h4, fun _ => rfl⟩
  · intro s hs
    have hg := hF (σ 39 3) h0 hn
    unfold pPart opSeq
    cases hr : F (σ 39 3) with
    | inl e =>
      rw [hr] at hs hg
      exact vl_X8_readPart_5 _ _ ⟨fun y => absurd y (by rw [hs.2.2.2.1]; have := hg.1; omega), fun _ => hs⟩
    | inr r =>
      rw [hr] at hs hg
      have := hg.1
      exact lp_part hG hC hF (by omega) (by omega) hT ⟨h7, h7q⟩ hn _ r.1 r.2 s (Nat.le_refl _) (by omega) this.2 hs
theorem lp_condC (hG : CG ch n base) {D0 : Nat} {dep NF B : Int} {F : Int → Rs} (hC : CP Ln D0 ch n base 57 dep F NF B) (hF : gdF n BO F) {D : Nat} (hD : D0 ≤ D) (hD1 : 2 ≤ D) {σ0 : AS} (hT0 : CT ch n base σ0) {u0 q0 : Int} (hu0 : 0 ≤ u0 ∧ u0 ≤ q0) (hq0 : q0 ≤ n) : ∀ (m : Nat) (q : Int) (g : GF) (s : AS), (n - q).toNat ≤ m → q0 ≤ q → q ≤ n → GP base u0 q0 q NF g σ0 s →
    am_E Ln D 56 5 [vR 39, vI dep, vU] [] s (am_rV (CQ base u0 q0 NF B σ0 (opLoop ch isO F (fun _ => org) m q g))) := by
  obtain ⟨D', rfl⟩ : ∃ D', D = D' + 2 := ⟨D - 2, by omega⟩
  have hn := hG.2.2.1
  intro m
  induction m with
  | zero =>
    intro q g s hm hq hqn hs
    have hT := CT_fr hT0 hs.1
    exact vl_X8_readCondition_5 _ _ ⟨fun _ => ⟨fun _ => hs, fun z => absurd (by rw [hT.1, hs.2.2.2.1]; omega) z⟩, fun z => absurd hs.2.2.1 z⟩
  | succ m ih =>
    intro q g s hm hq hqn hs
    have hT := CT_fr hT0 hs.1
    have h3 := hs.2.2.2.1
    refine vl_X8_readCondition_5 _ _ ⟨fun _ => ⟨fun z => ?_, fun z => cI (sp_peekC (d := D') hG hT (by omega)) ?_⟩, fun z => absurd hs.2.2.1 z⟩
    · rw [hT.1, h3] at z
      rw [opLoop_no (by rw [hG.1 q z]; rfl)]
      exact hs
    · rintro r2 s1 ⟨rfl, hp⟩
      rw [h3] at hp
      have e38 := pkC_eq hG hp (c := 124) (by decide)
      refine ⟨fun y => ?_, fun y => ?_⟩
      · have hc := e38.mp y
        rw [h3, w32_id (x := q + 1) (by omega) (by omega), opLoop, if_pos (show isO (ch q) = true from decide_eq_true hc)]
        refine jn_step hG hC hF (D := D' + 2) hD (by omega) hT0 hs hu0 ⟨hq, ch_lt hG.1 hc (by decide)⟩ (w := 4) (by decide) (cb := org) (fun K a b b2 g1 g2 a1 a2 a3 => SX_or a1 a2 a3) (fun s1 e1 hr hfp hf => ?_) (fun s1 r hr hgp hrn => ?_)
        · rw [hr]
          exact vl_X8_readCondition_5 _ _ ⟨fun y => absurd y (by rw [hfp.2.2.2.1]; omega), fun _ => hfp⟩
        · rw [hr]
          exact ih r.1 _ s1 (by omega) (by omega) hrn.2 (by rw [show max NF NF = NF by omega] at hgp; exact hgp)
      · rw [opLoop_no (show isO (ch q) = false from decide_eq_false (fun v => y (e38.mpr v)))]
        exact hs
theorem cp_condC (hG : CG ch n base) {D0 : Nat} {dep NF B : Int} {F : Int → Rs} (hC : CP Ln D0 ch n base 57 dep F NF B) (hF : gdF n BO F) (h1 : 2 ≤ D0) : CP Ln (D0 + 1) ch n base 56 dep (opSeq ch n isO F (fun _ => org)) NF B := by
  intro D σ hD hT
  obtain ⟨D, rfl⟩ : ∃ D', D = D' + 1 := ⟨D - 1, by omega⟩
  have hc := hC D σ (by omega) hT
  refine ⟨fun h4 => vm_X8_readCondition _ _ (cV (hc.1 h4) ?_), fun h4 h0 hn h7 h7q => vm_X8_readCondition _ _ (cV (hc.2 h4 h0 hn h7 h7q) ?_)⟩
  · rintro s rfl
    exact vl_X8_readCondition_5 _ _ ⟨fun y => absurd y h4, fun _ => rfl⟩
  · intro s hs
    have hg := hF (σ 39 3) h0 hn
    unfold opSeq
    cases hr : F (σ 39 3) with
    | inl e =>
      rw [hr] at hs hg
      exact vl_X8_readCondition_5 _ _ ⟨fun y => absurd y (by rw [hs.2.2.2.1]; have := hg.1; omega), fun _ => hs⟩
    | inr r =>
      rw [hr] at hs hg
      have := hg.1
      exact lp_condC hG hC hF (by omega) (by omega) hT ⟨h7, h7q⟩ hn _ r.1 r.2 s (Nat.le_refl _) (by omega) this.2 hs
end RO
