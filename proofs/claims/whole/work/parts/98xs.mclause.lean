/-! the model reads clauses and rules -/
def mrX : List Nat := [101, 102, 103, 104, 105, 106, 107, 108]
def mrF : List (Nat × Int) := [(82, 35), (82, 37), (82, 38), (82, 39), (82, 40), (82, 41), (82, 42), (82, 43)]
def CMr (c top : Int) (σ σ' : AS) : Prop := Fr mrX mrF σ σ' ∧ (∀ j : Int, j < top → σ' 106 j = σ 106 j ∧ σ' 107 j = σ 107 j) ∧ ∀ x : Int, x ≠ c → σ' 101 x = σ 101 x ∧ σ' 102 x = σ 102 x ∧ σ' 103 x = σ 103 x ∧ σ' 104 x = σ 104 x ∧ σ' 105 x = σ 105 x
theorem MTp_rd {ch : Int → Int} {n r : Int} {σ σ' : AS} (h : MTp ch n r σ) (hf : Fr mrX mrF σ σ') : MTp ch n r σ' := by
  unfold MTp
  rw [hf.fld 82 36 (by decide), hf.fld 82 7 (by decide), hf.cell 83 (by decide)]
  exact h
section CM
variable {c top : Int} {σ s s' : AS}
theorem CMr.rf : CMr c top σ σ := ⟨Fr.rf, fun _ _ => ⟨rfl, rfl⟩, fun _ _ => ⟨rfl, rfl, rfl, rfl, rfl⟩⟩
theorem CMr.tr (h : CMr c top σ s) (h2 : CMr c top s s') : CMr c top σ s' := by
  obtain ⟨a1, a2, a3⟩ := h
  obtain ⟨b1, b2, b3⟩ := h2
  refine ⟨a1.tr b1, fun j hj => ⟨(b2 j hj).1.trans (a2 j hj).1, (b2 j hj).2.trans (a2 j hj).2⟩, fun x hx => ?_⟩
  obtain ⟨p1, p2, p3, p4, p5⟩ := a3 x hx
  obtain ⟨q1, q2, q3, q4, q5⟩ := b3 x hx
  exact ⟨q1.trans p1, q2.trans p2, q3.trans p3, q4.trans p4, q5.trans p5⟩
theorem CMr_mp (h : Fr mpX mpF σ s) (h2 : ∀ j : Int, j < top → s 106 j = σ 106 j ∧ s 107 j = σ 107 j) : CMr c top σ s :=
  ⟨h.mo (by decide) (by decide), h2, fun x _ => ⟨by rw [h.cell 101 (by decide)], by rw [h.cell 102 (by decide)], by rw [h.cell 103 (by decide)], by rw [h.cell 104 (by decide)], by rw [h.cell 105 (by decide)]⟩⟩
theorem CMr_82 {i v : Int} (h : CMr c top σ s) (hi : (82, i) ∈ mrF) : CMr c top σ (am_up s 82 i v) :=
  h.tr ⟨Fr.up Fr.rf (Or.inr hi), fun j _ => ⟨by rw [am_up_ne (by decide)], by rw [am_up_ne (by decide)]⟩, fun x _ => ⟨by rw [am_up_ne (by decide)], by rw [am_up_ne (by decide)], by rw [am_up_ne (by decide)], by rw [am_up_ne (by decide)], by rw [am_up_ne (by decide)]⟩⟩
theorem CMr_c {k : Nat} {v : Int} (h : CMr c top σ s) (hk : k = 101 ∨ k = 102 ∨ k = 103 ∨ k = 104 ∨ k = 105) : CMr c top σ (am_up s k c v) := by
  have e : ∀ (k' : Nat) (x : Int), x ≠ c → am_up s k c v k' x = s k' x := fun k' x hx => by
    by_cases z : k' = k
    · rw [z, am_up_eq, if_neg hx]
    · rw [am_up_ne z]
  refine h.tr ⟨Fr.up Fr.rf (Or.inl ?_), fun j _ => ⟨?_, ?_⟩, fun x hx => ⟨e 101 x hx, e 102 x hx, e 103 x hx, e 104 x hx, e 105 x hx⟩⟩
  · rcases hk with z | z | z | z | z <;> rw [z] <;> decide
  · rw [am_up_ne (by omega)]
  · rw [am_up_ne (by omega)]
theorem CMr_n (h : Fr [] [(82, 35), (82, 37)] σ s) : CMr c top σ s := CMr_mp (h.mo (by decide) (by decide)) (fun j _ => by rw [h.cell 106 (by decide), h.cell 107 (by decide)]; exact ⟨rfl, rfl⟩)
end CM
def KFm (c top : Int) (e : Int × Int) (σ s : AS) : Prop := CMr c top σ s ∧ s 82 37 = -1000 * e.1 - e.2
def MXD (r : Int) (s : AS) (c : Int) (x : Cx) : Prop := s 101 c = x.1 ∧ s 102 c = x.2.1 ∧ (x.1 = 120 → s 103 c = x.2.2.1) ∧ (x.1 ≠ 120 → 0 ≤ s 104 c ∧ s 105 c ≤ s 82 39 ∧ ∃ m, cds s (160 * r + s 104 c) m ∧ s 104 c + m.length = s 105 c ∧ SM m 198 x.2.2.2)
def MCLQ (r c c0 j : Int) (σ : AS) (lt : Int) : Cs → AS → Prop
  | .inl e, s => KFm c (160 * r) e σ s
  | .inr x, s => CMr c (160 * r + c0) σ s ∧ s 82 37 = 0 ∧ s 82 35 = x.1 ∧ s 82 38 = j + 1 ∧ (c0 ≤ s 82 39 ∧ s 82 39 ≤ x.1) ∧ MXD r s c (lt, x.2)
theorem pBody_co {ch : Int → Int} {n : Int} {r : Int × Int} : pBody ch n r = (match pCo ch n r.1 with
  | .inl e => .inl e
  | .inr x => .inr (x.1, r.2, 0, x.2)) := by
  unfold pBody pCo
  by_cases z : ch r.1 = 40
  · rw [if_pos z, if_pos z]
    cases pIn ch 41 (pCond ch n (pPiece ch n 5)) r.1 <;> rfl
  · rw [if_neg z, if_neg z]
theorem CMr_lo {c r c0 : Int} {σ s : AS} (h : CMr c (160 * r + c0) σ s) (h0 : 0 ≤ c0) : CMr c (160 * r) σ s := ⟨h.1, fun j hj => h.2.1 j (by omega), h.2.2⟩
section MCL
variable {Ln : Int} {d : Nat} {ch : Int → Int} {n r c c0 j q : Int} {σ s : AS}
theorem gd_co (hz : ∀ q : Int, n ≤ q → ch q = 0) (h0 : 0 ≤ q) (h1 : q ≤ n) : gdR n q BO (pCo ch n q) := by
  unfold pCo
  by_cases z : ch q = 40
  · rw [if_pos z]
    exact gd_in hz (by decide) (gd_cond hz (gd_piece hz 5)) h0 (ch_lt hz z (by decide))
  · rw [if_neg z]
    exact ⟨⟨by dsimp only; decide, by dsimp only; decide⟩, h0, h1⟩
theorem KFm_end {e : Int × Int} {v w : Int} (h : KFm c (160 * r) e σ s) : KFm c (160 * r) e σ (am_up (am_up s 105 c v) 82 38 w) := by
  refine ⟨CMr_82 (CMr_c h.1 (by omega)) (by decide), ?_⟩
  rw [am_up_eq, if_neg (by decide), am_up_ne (by decide)]
  exact h.2
theorem KFm_n {e : Int × Int} (h : 0 ≤ c0) (hs : CMr c (160 * r + c0) σ s) {s' : AS} (hb : RBd e s s') : KFm c (160 * r) e σ s' :=
  ⟨(CMr_lo hs h).tr (CMr_n hb.1), hb.2⟩
/-- the body of a clause that is read -/
theorem t138 (hG : CG ch n (160 * r)) (hT : MTp ch n r σ) (hr : 0 ≤ r ∧ r < 20) (hc0 : 0 ≤ c0) (hc : 0 ≤ c ∧ c < 240) (hj : 0 ≤ j ∧ j < 100) {lt q1 f : Int} (hlt : lt ≠ 120) (hs : CMr c (160 * r + c0) σ s) (h37 : s 82 37 = 0) (h35 : s 82 35 = q1) (h38 : s 82 38 = j) (h39 : s 82 39 = c0) (h101 : s 101 c = lt) (h102 : s 102 c = f) (h104 : s 104 c = c0) (hq : c0 ≤ q1 ∧ q1 ≤ n) : am_E Ln (d + 8 + 1) 174 138 [vR 82, vI lt, vI c] [] s (am_rV (MCLQ r c c0 j σ lt (pBody ch n (q1, f)))) := by
  have hn := hG.2.2.1
  refine vl_X12_clause_138 _ _ _ ⟨fun z => absurd z hlt, fun _ => cI (sp_goodG (d := d + 8) h37) ?_⟩
  rintro r7 s6 ⟨rfl, rfl⟩
  refine ⟨fun z => absurd z (by decide), fun _ => cV (sp_condition (d := d + 1) (c0 := c0) hG (MTp_rd hT hs.1) hr hc0 h35 h37 h39 hq) ?_⟩
  intro s8 h8
  refine ⟨hc, ?_⟩
  rw [pBody_co]
  dsimp only
  have hg := gd_co hG.1 (q := q1) (by omega) hq.2
  cases hp : pCo ch n q1 with
  | inl e =>
    rw [hp] at h8
    obtain ⟨b1, b2, b3⟩ := h8
    exact KFm_end ⟨(CMr_lo hs hc0).tr (CMr_mp b1 (fun j hj => b2 j (by omega))), b3⟩
  | inr x =>
    rw [hp] at h8 hg
    have hgx := hg.1
    obtain ⟨m, ⟨b1, b2, ⟨b3, b4, b5⟩, b6, b7⟩, b8⟩ := h8
    have e38 : s8 82 38 = j := by rw [b1.fld 82 38 (by decide)]; exact h38
    rw [e38, w32_id (x := j + 1) (by omega) (by omega)]
    have hC : CMr c (160 * r + c0) σ (am_up (am_up s8 105 c (s8 82 39)) 82 38 (j + 1)) := CMr_82 (CMr_c (hs.tr (CMr_mp b1 (fun j hj => b2 j (by omega)))) (by omega)) (by decide)
    have e39 : (am_up (am_up s8 105 c (s8 82 39)) 82 38 (j + 1)) 82 39 = s8 82 39 := by rw [am_up_eq, if_neg (by decide), am_up_ne (by decide)]
    refine ⟨hC, ?_, ?_, ?_, ?_, ?_, ?_, ?_, fun _ => ⟨?_, ?_, m, ?_, ?_, b8⟩⟩
    · rw [am_up_eq, if_neg (by decide), am_up_ne (by decide)]; exact b4
    · rw [am_up_eq, if_neg (by decide), am_up_ne (by decide)]; exact b3
    · rw [am_up_eq, if_pos rfl]
    · rw [e39, b5]; show c0 ≤ c0 + m.length ∧ c0 + m.length ≤ x.1; omega
    · rw [am_up_ne (by decide), am_up_ne (by decide), b1.cell 101 (by decide)]; exact h101
    · rw [am_up_ne (by decide), am_up_ne (by decide), b1.cell 102 (by decide)]; exact h102
    · exact fun y => absurd y hlt
    · rw [am_up_ne (by decide), am_up_ne (by decide), b1.cell 104 (by decide), h104]; exact hc0
    · rw [e39, am_up_ne (by decide : 105 ≠ 82), am_up_eq, if_pos rfl]; exact Int.le_refl _
    · rw [am_up_ne (by decide : 104 ≠ 82), am_up_ne (by decide : 104 ≠ 105), b1.cell 104 (by decide), h104]
      unfold cds at b6 ⊢
      rw [am_up_ne (by decide : 106 ≠ 82), am_up_ne (by decide : 106 ≠ 105), am_up_ne (by decide : 107 ≠ 82), am_up_ne (by decide : 107 ≠ 105)]
      exact b6
    · rw [am_up_ne (by decide : 104 ≠ 82), am_up_ne (by decide : 104 ≠ 105), b1.cell 104 (by decide), h104, am_up_ne (by decide : 105 ≠ 82), am_up_eq, if_pos rfl]
      exact b5.symm
theorem t138_bad {e : Int × Int} {lt : Int} {R : Cs} (hR : R = .inl e) (hlt : lt ≠ 120) (hc : 0 ≤ c ∧ c < 240) (h : KFm c (160 * r) e σ s) (he : (1 ≤ e.1 ∧ e.1 ≤ 5) ∧ 0 ≤ e.2) : am_E Ln (d + 1) 174 138 [vR 82, vI lt, vI c] [] s (am_rV (MCLQ r c c0 j σ lt R)) := by
  subst hR
  refine vl_X12_clause_138 _ _ _ ⟨fun z => absurd z hlt, fun _ => cI (sp_goodB (d := d) (by rw [h.2]; omega)) ?_⟩
  rintro r7 s6 ⟨rfl, rfl⟩
  exact ⟨fun _ => ⟨hc, KFm_end h⟩, fun z => absurd rfl z⟩
theorem t169_bad {e : Int × Int} {lt : Int} {R : Cs} (hR : R = .inl e) (hc : 0 ≤ c ∧ c < 240) (h : KFm c (160 * r) e σ s) (he : (1 ≤ e.1 ∧ e.1 ≤ 5) ∧ 0 ≤ e.2) : am_E Ln (d + 1) 174 169 [vR 82, vU, vI c] [] s (am_rV (MCLQ r c c0 j σ lt R)) := by
  subst hR
  refine vl_X12_clause_169 _ _ (cI (sp_goodB (d := d) (by rw [h.2]; omega)) ?_)
  rintro r2 s1 ⟨rfl, rfl⟩
  exact ⟨fun _ => ⟨hc, KFm_end h⟩, fun z => absurd rfl z⟩
/-- the numbers of a clause that strikes -/
theorem t138_x (hG : CG ch n (160 * r)) (hT : MTp ch n r σ) (hc0 : 0 ≤ c0) (hc : 0 ≤ c ∧ c < 240) (hj : 0 ≤ j ∧ j < 100) (hs : CMr c (160 * r + c0) σ s) (h37 : s 82 37 = 0) (h35 : s 82 35 = q + 1) (h38 : s 82 38 = j) (h39 : s 82 39 = c0) (h101 : s 101 c = 120) (hq : c0 ≤ q ∧ q < n) : am_E Ln (d + 4 + 1) 174 138 [vR 82, vI 120, vI c] [] s (am_rV (MCLQ r c c0 j σ 120 (pX ch q))) := by
  have hn := hG.2.2.1
  refine vl_X12_clause_138 _ _ _ ⟨fun _ => cI (sp_reads2 (d := d + 1) (σ0 := s) (q := q + 1) (lim := 19) hG (MTp_rd hT hs.1) (by decide) ⟨Fr.rf, h35, h37⟩ ⟨by omega, by omega⟩) ?_, fun z => absurd rfl z⟩
  intro v s1 h1
  have hg := gd_num (n := n) hG.1 (lim := 19) (q := q + 1) (by omega) (by omega)
  refine ⟨hc, ?_⟩
  unfold pX
  cases hp : pNum ch 19 (q + 1) with
  | inl e =>
    rw [hp] at h1 hg
    have hb := KFm_n (c := c) hc0 hs h1
    have hb2 : KFm c (160 * r) e σ (am_up s1 102 c v) := ⟨CMr_c hb.1 (by omega), by rw [am_up_ne (by decide)]; exact hb.2⟩
    refine cI (sp_goodB (d := d + 4) (by rw [hb2.2]; have := hg.1; omega)) ?_
    rintro r4 s3 ⟨rfl, rfl⟩
    exact ⟨fun _ => t169_bad rfl hc hb2 ⟨hg.1, hg.2.1⟩, fun z => absurd rfl z⟩
  | inr x =>
    rw [hp] at h1 hg
    obtain ⟨rfl, g1, g2, g3⟩ := h1
    have hC2 : CMr c (160 * r + c0) σ (am_up s1 102 c x.2) := CMr_c (hs.tr (CMr_n g1)) (by omega)
    have e37 : (am_up s1 102 c x.2) 82 37 = 0 := by rw [am_up_ne (by decide)]; exact g3
    have e35 : (am_up s1 102 c x.2) 82 35 = x.1 := by rw [am_up_ne (by decide)]; exact g2
    refine cI (sp_goodG (d := d + 4) e37) ?_
    rintro r4 s3 ⟨rfl, rfl⟩
    refine ⟨fun z => absurd z (by decide), fun _ => cV (sp_must (d := d + 3) (σ0 := am_up s1 102 c x.2) (q := x.1) (c := 46) hG (MTp_rd hT hC2.1) ⟨Fr.rf, e35, e37⟩ ⟨by omega, hg.2⟩) ?_⟩
    rintro s5 ⟨k1, k2⟩
    dsimp only
    by_cases z : ch x.1 = 46
    · rw [if_pos z]
      have hlt2 := ch_lt hG.1 z (by decide)
      obtain ⟨m1, m2, m3⟩ := k1 z
      have hC5 : CMr c (160 * r + c0) σ s5 := hC2.tr (CMr_n m1)
      refine vl_X12_clause_169 _ _ (cI (sp_goodG (d := d + 4) m3) ?_)
      rintro r2 s6 ⟨rfl, rfl⟩
      refine ⟨fun w => absurd w (by decide), fun _ => cI (sp_reads2 (d := d + 1) (σ0 := s6) (q := x.1 + 1) (lim := 11) hG (MTp_rd hT hC5.1) (by decide) ⟨Fr.rf, m2, m3⟩ ⟨by omega, by omega⟩) ?_⟩
      intro v2 s7 h7
      refine ⟨hc, hc, ?_⟩
      have hg2 := gd_num (n := n) hG.1 (lim := 11) (q := x.1 + 1) (by omega) (by omega)
      cases hp2 : pNum ch 11 (x.1 + 1) with
      | inl e =>
        rw [hp2] at h7 hg2
        have hb := KFm_n (c := c) hc0 hC5 h7
        exact KFm_end ⟨CMr_c hb.1 (by omega), by rw [am_up_ne (by decide)]; exact hb.2⟩
      | inr y =>
        rw [hp2] at h7 hg2
        obtain ⟨rfl, g1', g2', g3'⟩ := h7
        have e38 : s7 82 38 = j := by
          rw [g1'.fld 82 38 (by decide), m1.fld 82 38 (by decide), am_up_ne (by decide), g1.fld 82 38 (by decide)]; exact h38
        have e39 : s7 82 39 = c0 := by
          rw [g1'.fld 82 39 (by decide), m1.fld 82 39 (by decide), am_up_ne (by decide), g1.fld 82 39 (by decide)]; exact h39
        rw [e38, w32_id (x := j + 1) (by omega) (by omega)]
        refine ⟨CMr_82 (CMr_c (CMr_c (hC5.tr (CMr_n g1')) (by omega)) (by omega)) (by decide), ?_, ?_, ?_, ?_, ?_, ?_, fun _ => ?_, fun w => absurd rfl w⟩
        · rw [am_up_eq, if_neg (by decide), am_up_ne (by decide), am_up_ne (by decide)]; exact g3'
        · rw [am_up_eq, if_neg (by decide), am_up_ne (by decide), am_up_ne (by decide)]; exact g2'
        · rw [am_up_eq, if_pos rfl]
        · rw [am_up_eq, if_neg (by decide), am_up_ne (by decide), am_up_ne (by decide), e39]; show c0 ≤ c0 ∧ c0 ≤ y.1; omega
        · rw [am_up_ne (by decide), am_up_ne (by decide), am_up_ne (by decide), g1'.cell 101 (by decide), m1.cell 101 (by decide), am_up_ne (by decide), g1.cell 101 (by decide)]; exact h101
        · rw [am_up_ne (by decide), am_up_ne (by decide), am_up_ne (by decide), g1'.cell 102 (by decide), m1.cell 102 (by decide), am_up_eq, if_pos rfl]
        · rw [am_up_ne (by decide), am_up_ne (by decide), am_up_eq, if_pos rfl]
    · rw [if_neg z]
      have hb := KFm_n (c := c) hc0 hC2 (k2 z)
      exact t169_bad rfl hc hb ⟨⟨by dsimp only; decide, by dsimp only; decide⟩, by show 0 ≤ x.1; omega⟩
/-- the model reads a clause -/
theorem sp_clause (hG : CG ch n (160 * r)) (hT : MTp ch n r σ) (hr : 0 ≤ r ∧ r < 20) (hc0 : 0 ≤ c0) (hj : 0 ≤ j ∧ j ≤ 12) (h37 : σ 82 37 = 0) (h35 : σ 82 35 = q) (h38 : σ 82 38 = j) (h39 : σ 82 39 = c0) (hq : c0 ≤ q ∧ q ≤ n) : am_M Ln (d + 10) 174 [vR 82] σ (am_rV (MCLQ r (12 * r + j) c0 j σ (ch q) (pClause ch n j q))) := by
  have hn := hG.2.2.1
  have h7 : σ 82 7 = r := hT.2.1
  refine vm_X12_clause _ (cI (sp_here (d := d + 8) hG hT h35 (by omega)) ?_)
  rintro r2 s1 ⟨rfl, rfl⟩
  -- a clause that may not begin
  have fau : ∀ (f : Int) (x : Int), (1 ≤ f ∧ f ≤ 5) → pClause ch n j q = .inl (f, q) → ∃ T : Option AV → AS → Prop, am_M Ln (d + 9) 153 [vR 82, vI f, vI (s1 82 35)] s1 T ∧ ∀ s3, T none s3 → am_E Ln (d + 9) 174 59 [vR 82, vI x, vU] [] s3 (am_rV (MCLQ r (12 * r + j) c0 j s1 (ch q) (pClause ch n j q))) := by
    intro f x hf hp
    rw [h35]
    refine cV (sp_wrongs (d := d + 8) h37 (by omega) (by omega)) ?_
    rintro s3 rfl
    refine vl_X12_clause_59 _ _ (cI (sp_goodB (d := d + 8) (by rw [am_up_eq, if_pos rfl]; omega)) ?_)
    rintro r2 s4 ⟨rfl, rfl⟩
    refine ⟨fun _ => ?_, fun z => absurd rfl z⟩
    show MCLQ _ _ _ _ _ _ (pClause ch n j q) _
    rw [hp]
    exact ⟨CMr_82 CMr.rf (by decide), by rw [am_up_eq, if_pos rfl]⟩
  -- a clause that begins
  have go : isC (ch q) = true → j < 12 → am_E Ln (d + 9) 174 59 [vR 82, vI (ch q), vU] [] s1 (am_rV (MCLQ r (12 * r + j) c0 j s1 (ch q) (pClause ch n j q))) := by
    intro hl hj12
    have hlt : q < n := by
      by_cases y : n ≤ q
      · rw [hG.1 q y] at hl; exact absurd hl (by decide)
      · omega
    obtain ⟨c, hcE⟩ : ∃ c, c = 12 * r + j := ⟨_, rfl⟩
    have hc : 0 ≤ c ∧ c < 240 := by omega
    refine vl_X12_clause_59 _ _ (cI (sp_goodG (d := d + 8) h37) ?_)
    rintro r2 s2 ⟨rfl, rfl⟩
    refine ⟨fun z => absurd z (by decide), fun _ => ?_⟩
    rw [h7, h38, h39, h35, w32_id (x := 12 * r) (by omega) (by omega), w32_id (x := 12 * r + j) (by omega) (by omega), w32_id (x := q + 1) (by omega) (by omega), ← hcE]
    obtain ⟨τ, hτ⟩ : ∃ τ, τ = am_up (am_up (am_up (am_up (am_up s2 101 c (ch q)) 102 c 0) 103 c 0) 104 c c0) 82 35 (q + 1) := ⟨_, rfl⟩
    rw [← hτ]
    have hC : CMr c (160 * r + c0) s2 τ := by
      rw [hτ]
      exact CMr_82 (CMr_c (CMr_c (CMr_c (CMr_c CMr.rf (by omega)) (by omega)) (by omega)) (by omega)) (by decide)
    have fF : Fr [101, 102, 103, 104] [(82, 35)] s2 τ := by
      rw [hτ]
      exact Fr.up (Fr.up (Fr.up (Fr.up (Fr.up Fr.rf (Or.inl (by decide))) (Or.inl (by decide))) (Or.inl (by decide))) (Or.inl (by decide))) (Or.inr (by decide))
    have t37 : τ 82 37 = 0 := by rw [fF.fld 82 37 (by decide)]; exact h37
    have t35 : τ 82 35 = q + 1 := by rw [hτ, am_up_eq, if_pos rfl]
    have t38 : τ 82 38 = j := by rw [fF.fld 82 38 (by decide)]; exact h38
    have t39 : τ 82 39 = c0 := by rw [fF.fld 82 39 (by decide)]; exact h39
    have t101 : τ 101 c = ch q := by rw [hτ, am_up_ne (by decide), am_up_ne (by decide), am_up_ne (by decide), am_up_ne (by decide), am_up_eq, if_pos rfl]
    have t102 : τ 102 c = 0 := by rw [hτ, am_up_ne (by decide), am_up_ne (by decide), am_up_ne (by decide), am_up_eq, if_pos rfl]
    have t104 : τ 104 c = c0 := by rw [hτ, am_up_ne (by decide), am_up_eq, if_pos rfl]
    refine ⟨hc, hc, hc, hc, fun hw => ?_, fun hw => ?_⟩
    · have hx : ch q ≠ 120 := by omega
      have hpc : pClause ch n j q = (match pNum ch 4 (q + 1) with
          | .inl e => .inl e
          | .inr r => pBody ch n r) := by
        unfold pClause pHead
        rw [if_pos hl, if_neg (by omega), if_neg hx, if_pos hw]
        cases pNum ch 4 (q + 1) <;> rfl
      rw [hpc]
      refine cI (sp_reads2 (d := d + 5) (σ0 := τ) (q := q + 1) (lim := 4) hG (MTp_rd hT hC.1) (by decide) ⟨Fr.rf, t35, t37⟩ ⟨by omega, by omega⟩) ?_
      intro v s3 h3
      refine ⟨hc, ?_⟩
      have hg := gd_num (n := n) hG.1 (lim := 4) (q := q + 1) (by omega) (by omega)
      cases hp : pNum ch 4 (q + 1) with
      | inl e =>
        rw [hp] at h3 hg
        have hb := KFm_n (c := c) hc0 hC h3
        exact t138_bad rfl hx hc ⟨CMr_c hb.1 (by omega), by rw [am_up_ne (by decide)]; exact hb.2⟩ ⟨hg.1, hg.2.1⟩
      | inr x =>
        rw [hp] at h3 hg
        obtain ⟨rfl, g1, g2, g3⟩ := h3
        refine t138 (d := d) hG hT hr hc0 hc (by omega) hx (q1 := x.1) (f := x.2) (CMr_c (hC.tr (CMr_n g1)) (by omega)) ?_ ?_ ?_ ?_ ?_ ?_ ?_ ⟨by omega, hg.2⟩
        · rw [am_up_ne (by decide)]; exact g3
        · rw [am_up_ne (by decide)]; exact g2
        · rw [am_up_ne (by decide), g1.fld 82 38 (by decide)]; exact t38
        · rw [am_up_ne (by decide), g1.fld 82 39 (by decide)]; exact t39
        · rw [am_up_ne (by decide), g1.cell 101 (by decide)]; exact t101
        · rw [am_up_eq, if_pos rfl]
        · rw [am_up_ne (by decide), g1.cell 104 (by decide)]; exact t104
    · by_cases hx : ch q = 120
      · have hpc : pClause ch n j q = pX ch q := by
          unfold pClause
          rw [if_pos hl, if_neg (by omega), if_pos hx]
        rw [hpc, hx]
        exact t138_x (d := d + 4) hG hT hc0 hc (by omega) hC t37 t35 t38 t39 (by rw [t101]; exact hx) ⟨hq.1, hlt⟩
      · have hpc : pClause ch n j q = pBody ch n (q + 1, 0) := by
          unfold pClause pHead
          rw [if_pos hl, if_neg (by omega), if_neg hx, if_neg hw]
        rw [hpc]
        exact t138 (d := d) hG hT hr hc0 hc (by omega) hx (q1 := q + 1) (f := 0) hC t37 t35 t38 t39 t101 t102 t104 ⟨by omega, by omega⟩
  have body : isC (ch q) = true → (s1 82 38 = 12 → ∃ T : Option AV → AS → Prop, am_M Ln (d + 9) 153 [vR 82, vI 4, vI (s1 82 35)] s1 T ∧ ∀ s3, T none s3 → am_E Ln (d + 9) 174 59 [vR 82, vI (ch q), vU] [] s3 (am_rV (MCLQ r (12 * r + j) c0 j s1 (ch q) (pClause ch n j q)))) ∧ (¬ (s1 82 38 = 12) → am_E Ln (d + 9) 174 59 [vR 82, vI (ch q), vU] [] s1 (am_rV (MCLQ r (12 * r + j) c0 j s1 (ch q) (pClause ch n j q)))) := by
    intro hl
    refine ⟨fun z => fau 4 _ (by decide) ?_, fun z => go hl (by omega)⟩
    unfold pClause
    rw [if_pos hl, if_pos (by omega)]
  refine ⟨fun z => body (decide_eq_true (Or.inl z)), fun z1 => ⟨fun z => body (decide_eq_true (Or.inr (Or.inl z))), fun z2 => ⟨fun z => body (decide_eq_true (Or.inr (Or.inr (Or.inl z)))), fun z3 => ⟨fun z => body (decide_eq_true (Or.inr (Or.inr (Or.inr z)))), fun z4 => fau 1 _ (by decide) ?_⟩⟩⟩⟩
  have hl : ¬ isC (ch q) = true := fun y => by
    rcases of_decide_eq_true y with v | v | v | v
    · exact z1 v
    · exact z2 v
    · exact z3 v
    · exact z4 v
  unfold pClause
  rw [if_neg hl]
end MCL
