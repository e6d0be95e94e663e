/-! the model reads rules -/
def MRr (r : Int) (σ σ' : AS) : Prop := Fr mrX mrF σ σ' ∧ (∀ j : Int, j < 160 * r → σ' 106 j = σ 106 j ∧ σ' 107 j = σ 107 j) ∧ ∀ x : Int, x < 12 * r → σ' 101 x = σ 101 x ∧ σ' 102 x = σ 102 x ∧ σ' 103 x = σ 103 x ∧ σ' 104 x = σ 104 x ∧ σ' 105 x = σ 105 x
theorem MRr.rf {r : Int} {σ : AS} : MRr r σ σ := ⟨Fr.rf, fun _ _ => ⟨rfl, rfl⟩, fun _ _ => ⟨rfl, rfl, rfl, rfl, rfl⟩⟩
theorem MRr.tr {r : Int} {σ s s' : AS} (h : MRr r σ s) (h2 : MRr r s s') : MRr r σ s' := by
  obtain ⟨a1, a2, a3⟩ := h
  obtain ⟨b1, b2, b3⟩ := h2
  refine ⟨a1.tr b1, fun j hj => ⟨(b2 j hj).1.trans (a2 j hj).1, (b2 j hj).2.trans (a2 j hj).2⟩, fun x hx => ?_⟩
  obtain ⟨p1, p2, p3, p4, p5⟩ := a3 x hx
  obtain ⟨q1, q2, q3, q4, q5⟩ := b3 x hx
  exact ⟨q1.trans p1, q2.trans p2, q3.trans p3, q4.trans p4, q5.trans p5⟩
theorem MRr_of {r c top : Int} {σ s : AS} (h : CMr c top σ s) (hc : 12 * r ≤ c) (ht : 160 * r ≤ top) : MRr r σ s :=
  ⟨h.1, fun j hj => h.2.1 j (by omega), fun x hx => h.2.2 x (by omega)⟩
theorem MXD_fr {r c top t : Int} {s s' : AS} {x : Cx} (h : MXD r s t x) (hf : CMr c top s s') (ht : t ≠ c) (htop : 160 * r + s 82 39 ≤ top) (h7 : s 82 39 ≤ s' 82 39) : MXD r s' t x := by
  obtain ⟨h1, h2, h3, h4⟩ := h
  obtain ⟨f1, f2, f3⟩ := hf
  obtain ⟨p1, p2, p3, p4, p5⟩ := f3 t ht
  refine ⟨p1.trans h1, p2.trans h2, fun y => p3.trans (h3 y), fun y => ?_⟩
  obtain ⟨g1, g2, m, g3, g4, g5⟩ := h4 y
  rw [p4, p5]
  refine ⟨g1, by omega, m, ?_, g4, g5⟩
  unfold cds at g3 ⊢
  refine Eq.trans ?_ g3
  refine rl_congr (fun j j0 j1 => ?_)
  rw [(f2 _ (by omega)).1, (f2 _ (by omega)).2]
section MU
variable {Ln : Int} {d : Nat} {ch : Int → Int} {n r : Int} {σ0 : AS} {x1 x2 x3 : Int} {Q : Option AV → AS → Prop}
theorem ru_bad {x5 : Int} {e : Int × Int} {s : AS} (h : s 82 37 = -1000 * e.1 - e.2) (he : (1 ≤ e.1 ∧ e.1 ≤ 5) ∧ 0 ≤ e.2) (hQ : Q (some (vI (-1000 * e.1 - e.2))) s) : am_E Ln (d + 1) 175 98 [vR 82, vI x1, vI x2, vI x3, vU, vI x5] [] s Q := by
  have hQ' : Q (some (vI (s 82 37))) s := by rw [h]; exact hQ
  refine vl_X12_rules_98 _ _ _ _ _ ⟨fun _ => ⟨fun z => absurd z (by omega), fun _ => hQ'⟩, fun _ => cI (sp_goodB (d := d) (by omega)) ?_⟩
  rintro r2 s1 ⟨rfl, rfl⟩
  exact ⟨fun _ => ⟨fun z => absurd z (by omega), fun _ => hQ'⟩, fun z => absurd rfl z⟩
theorem ru_end {s : AS} (hr : 0 ≤ r ∧ r < 20) (h7 : s 82 7 = r) (h : s 82 37 = 0) (hQ : Q (some (vI r)) (am_up (am_up (am_up (am_up (am_up (am_up s 96 r x1) 97 r x2) 98 r x3) 99 r (s 82 2)) 100 r (s 82 38)) 82 7 (r + 1))) : am_E Ln (d + 1) 175 98 [vR 82, vI x1, vI x2, vI x3, vU, vI 0] [] s Q := by
  refine vl_X12_rules_98 _ _ _ _ _ ⟨fun _ => ⟨fun _ => ?_, fun z => absurd (by omega) z⟩, fun z => absurd rfl z⟩
  rw [h7, w32_id (x := r + 1) (by omega) (by omega), w32_id (x := r + 1 - 1) (by omega) (by omega), show r + 1 - 1 = r by omega]
  exact ⟨hr, hr, hr, hr, hr, hQ⟩
theorem lp_mrules (hG : CG ch n (160 * r)) (hT : MTp ch n r σ0) (hr : 0 ≤ r ∧ r < 20) {R : Sum (Int × Int) (List Cx)}
    (hK1 : ∀ e s, R = .inl e → ((1 ≤ e.1 ∧ e.1 ≤ 5) ∧ 0 ≤ e.2) → MRr r σ0 s → Q (some (vI (-1000 * e.1 - e.2))) s)
    (hK2 : ∀ L s, R = .inr L → MRr r σ0 s → s 82 38 = L.length → s 82 39 ≤ 160 → (∀ (i : Nat) (x : Cx), L[i]? = some x → MXD r s (12 * r + i) x) → Q (some (vI r)) (am_up (am_up (am_up (am_up (am_up (am_up s 96 r x1) 97 r x2) 98 r x3) 99 r (s 82 2)) 100 r (s 82 38)) 82 7 (r + 1))) :
    ∀ (m : Nat) (j q : Int) (A : List Cx) (s : AS), j + m = 12 → 0 ≤ j → (A.length : Int) = j → 0 ≤ q → q ≤ n → MRr r σ0 s → s 82 37 = 0 → s 82 35 = q → s 82 38 = j → 0 ≤ s 82 39 → s 82 39 ≤ q → (∀ (i : Nat) (x : Cx), A[i]? = some x → MXD r s (12 * r + i) x) → appR A (pRules ch n (m + 1) j q) = R →
    am_E Ln (d + 11) 175 98 [vR 82, vI x1, vI x2, vI x3, vU, vI 1] [] s Q := by
  have hn := hG.2.2.1
  intro m
  induction m with
  | zero =>
    intro j q A s hm h0 hA hq hqn hR h37 h35 h38 h39 h39q hd hRR
    have hT' := MTp_rd hT hR.1
    refine vl_X12_rules_98 _ _ _ _ _ ⟨fun z => absurd z (by decide), fun _ => cI (sp_goodG (d := d + 10) h37) ?_⟩
    rintro r2 s1 ⟨rfl, rfl⟩
    refine ⟨fun z => absurd z (by decide), fun _ => cV (sp_clause (d := d + 1) (q := q) (j := j) (c0 := s1 82 39) hG hT' hr h39 ⟨h0, by omega⟩ h37 h35 h38 rfl ⟨h39q, hqn⟩) ?_⟩
    intro s3 hs3
    have hpc : ∃ e, pClause ch n j q = .inl e := by
      unfold pClause
      by_cases hl : isC (ch q) = true
      · rw [if_pos hl, if_pos (by omega)]; exact ⟨_, rfl⟩
      · rw [if_neg hl]; exact ⟨_, rfl⟩
    obtain ⟨e, hpc⟩ := hpc
    have hg := gd_clause hG.1 (j := j) hq hqn
    rw [hpc] at hs3 hg
    obtain ⟨b1, b2⟩ := hs3
    have he : (1 ≤ e.1 ∧ e.1 ≤ 5) ∧ 0 ≤ e.2 := ⟨hg.1, hg.2.1⟩
    refine cI (sp_goodB (d := d + 10) (by omega)) ?_
    rintro r5 s4 ⟨rfl, rfl⟩
    refine ⟨fun _ => ⟨fun _ => ru_bad (d := d + 10) b2 he (hK1 e _ ?_ he (hR.tr (MRr_of b1 (by omega) (Int.le_refl _)))), fun z => absurd rfl z⟩, fun z => absurd rfl z⟩
    rw [← hRR, pRules, hpc]
    rfl
  | succ m ih =>
    intro j q A s hm h0 hA hq hqn hR h37 h35 h38 h39 h39q hd hRR
    have hT' := MTp_rd hT hR.1
    refine vl_X12_rules_98 _ _ _ _ _ ⟨fun z => absurd z (by decide), fun _ => cI (sp_goodG (d := d + 10) h37) ?_⟩
    rintro r2 s1 ⟨rfl, rfl⟩
    refine ⟨fun z => absurd z (by decide), fun _ => cV (sp_clause (d := d + 1) (q := q) (j := j) (c0 := s1 82 39) hG hT' hr h39 ⟨h0, by omega⟩ h37 h35 h38 rfl ⟨h39q, hqn⟩) ?_⟩
    intro s3 hs3
    have hg := gd_clause hG.1 (j := j) hq hqn
    rw [pRules] at hRR
    cases hpc : pClause ch n j q with
    | inl e =>
      rw [hpc] at hs3 hg hRR
      obtain ⟨b1, b2⟩ := hs3
      have he : (1 ≤ e.1 ∧ e.1 ≤ 5) ∧ 0 ≤ e.2 := ⟨hg.1, hg.2.1⟩
      refine cI (sp_goodB (d := d + 10) (by omega)) ?_
      rintro r5 s4 ⟨rfl, rfl⟩
      exact ⟨fun _ => ⟨fun _ => ru_bad (d := d + 10) b2 he (hK1 e _ hRR.symm he (hR.tr (MRr_of b1 (by omega) (Int.le_refl _)))), fun z => absurd rfl z⟩, fun z => absurd rfl z⟩
    | inr x =>
      rw [hpc] at hs3 hg hRR
      obtain ⟨g1, g2, g3, g4, g5, g6⟩ := hs3
      have hgp := hg.1
      have hR1 : MRr r σ0 s3 := hR.tr (MRr_of g1 (by omega) (by omega))
      have hT3 := MTp_rd hT hR1.1
      have hd1 : ∀ (i : Nat) (y : Cx), (A ++ [(ch q, x.2)])[i]? = some y → MXD r s3 (12 * r + i) y := by
        intro i y hy
        rw [List.getElem?_append] at hy
        by_cases z : i < A.length
        · rw [if_pos z] at hy
          exact MXD_fr (hd i y hy) g1 (by omega) (Int.le_refl _) (by omega)
        · rw [if_neg z] at hy
          by_cases z2 : i - A.length = 0
          · rw [z2] at hy
            have : (ch q, x.2) = y := by
              have := hy
              rw [List.getElem?_cons_zero] at this
              exact Option.some.inj this
            rw [← this, show 12 * r + (i : Int) = 12 * r + j by omega]
            exact g6
          · rw [List.getElem?_eq_none (by rw [List.length_singleton]; omega)] at hy
            cases hy
      refine cI (sp_goodG (d := d + 10) g2) ?_
      rintro r5 s4 ⟨rfl, rfl⟩
      refine ⟨fun z => absurd z (by decide), fun _ => ⟨fun z => ⟨fun _ => ?_, fun y => absurd rfl y⟩, fun z => ⟨fun y => absurd y (by decide), fun _ => ?_⟩⟩⟩
      · rw [hT3.1, g3] at z
        dsimp only at hRR
        rw [if_neg (by omega)] at hRR
        refine ru_end (d := d + 10) hr hT3.2.1 g2 (hK2 (A ++ [(ch q, x.2)]) s4 hRR.symm hR1 ?_ (by omega) hd1)
        rw [g4, List.length_append, List.length_singleton]
        omega
      · rw [hT3.1, g3] at z
        dsimp only at hRR
        rw [if_pos (by omega)] at hRR
        refine cV (sp_must (d := d + 9) (σ0 := s4) (q := x.1) (c := 59) hG hT3 ⟨Fr.rf, g3, g2⟩ ⟨by omega, hgp.2⟩) ?_
        rintro s8 ⟨k1, k2⟩
        by_cases zc : ch x.1 = 59
        · rw [if_pos zc] at hRR
          obtain ⟨m1, m2, m3⟩ := k1 zc
          have hC8 : CMr (12 * r + 12) (160 * r + 160) s4 s8 := CMr_n m1
          refine ih (j + 1) (x.1 + 1) (A ++ [(ch q, x.2)]) s8 (by omega) (by omega) (by rw [List.length_append, List.length_singleton]; omega) (by omega) (by omega) (hR1.tr (MRr_of hC8 (by omega) (by omega))) m3 m2 (by rw [m1.fld 82 38 (by decide)]; exact g4) (by rw [m1.fld 82 39 (by decide)]; omega) (by rw [m1.fld 82 39 (by decide)]; omega) (fun i y hy => ?_) ?_
          · have hi : i < A.length + 1 := by
              by_cases w : i < (A ++ [(ch q, x.2)]).length
              · rw [List.length_append, List.length_singleton] at w; exact w
              · rw [List.getElem?_eq_none (by omega)] at hy; cases hy
            exact MXD_fr (hd1 i y hy) hC8 (by omega) (by omega) (by rw [m1.fld 82 39 (by decide)]; exact Int.le_refl _)
          · rw [← hRR]
            cases hp : pRules ch n (m + 1) (j + 1) (x.1 + 1) with
            | inl e => rfl
            | inr L =>
              show Sum.inr ((A ++ [(ch q, x.2)]) ++ L) = Sum.inr (A ++ ((ch q, x.2) :: L))
              rw [List.append_assoc]
              rfl
        · rw [if_neg zc] at hRR
          obtain ⟨m1, m2⟩ := k2 zc
          have he : (1 ≤ (1 : Int) ∧ (1 : Int) ≤ 5) ∧ 0 ≤ x.1 := ⟨by decide, by omega⟩
          exact ru_bad (d := d + 10) (e := (1, x.1)) m2 he (hK1 (1, x.1) _ hRR.symm he (hR1.tr (MRr_of (c := 12 * r) (top := 160 * r) (CMr_n m1) (Int.le_refl _) (Int.le_refl _))))
end MU
/-! rules, the pair -/
def crX : List Nat := [25, 26, 27, 28] ++ rdX
def crF : List (Nat × Int) := [(2, 1), (24, 14), (39, 2), (39, 3), (39, 4), (39, 5), (39, 6), (39, 7)]
def CLOW (r : Int) (σ s : AS) : Prop := Fr crX crF σ s ∧ s 2 1 = 0 ∧ (∀ j : Int, j < 160 * r → s 35 j = σ 35 j) ∧ (∀ x : Int, x < 12 * r → s 30 x = σ 30 x ∧ s 31 x = σ 31 x ∧ s 32 x = σ 32 x ∧ s 33 x = σ 33 x ∧ s 34 x = σ 34 x) ∧ ∀ x : Int, x < r → s 25 x = σ 25 x ∧ s 26 x = σ 26 x ∧ s 27 x = σ 27 x ∧ s 28 x = σ 28 x ∧ s 29 x = σ 29 x
def CX2 (r : Int) (s : AS) (c : Int) (x : Cx) : Prop := s 30 c = x.1 ∧ s 31 c = x.2.1 ∧ (x.1 = 120 → s 32 c = x.2.2.1) ∧ (x.1 ≠ 120 → SX (s 35) (s 33 c) (s 34 c) 39 x.2.2.2 ∧ s 34 c ≤ 160 * r + 160)
def CRQ (r l f t : Int) (σ : AS) : Sum (Int × Int) (List Cx) → Int → AS → Prop
  | .inl e, v, s => v = -1000 * e.1 - e.2 ∧ CLOW r σ s ∧ s 24 14 = r
  | .inr L, v, s => v = r ∧ CLOW r σ s ∧ s 24 14 = r + 1 ∧ (s 25 r = l ∧ s 26 r = f ∧ s 27 r = t ∧ s 28 r = σ 1 10) ∧ s 29 r = L.length ∧ ∀ (i : Nat) (x : Cx), L[i]? = some x → CX2 r s (12 * r + i) x
def mmX : List Nat := [96, 97, 98, 99, 100] ++ mrX
def mmF : List (Nat × Int) := [(82, 1), (82, 7), (82, 36)] ++ mrF
def MLOW (r : Int) (σ s : AS) : Prop := Fr mmX mmF σ s ∧ s 82 1 = 0 ∧ (∀ j : Int, j < 160 * r → s 106 j = σ 106 j ∧ s 107 j = σ 107 j) ∧ (∀ x : Int, x < 12 * r → s 101 x = σ 101 x ∧ s 102 x = σ 102 x ∧ s 103 x = σ 103 x ∧ s 104 x = σ 104 x ∧ s 105 x = σ 105 x) ∧ ∀ x : Int, x < r → s 96 x = σ 96 x ∧ s 97 x = σ 97 x ∧ s 98 x = σ 98 x ∧ s 99 x = σ 99 x ∧ s 100 x = σ 100 x
def MX2 (r : Int) (s : AS) (c : Int) (x : Cx) : Prop := s 101 c = x.1 ∧ s 102 c = x.2.1 ∧ (x.1 = 120 → s 103 c = x.2.2.1) ∧ (x.1 ≠ 120 → 0 ≤ s 104 c ∧ s 105 c ≤ 160 ∧ ∃ m, cds s (160 * r + s 104 c) m ∧ s 104 c + m.length = s 105 c ∧ SM m 198 x.2.2.2)
def MMQ (r l f t : Int) (σ : AS) : Sum (Int × Int) (List Cx) → Int → AS → Prop
  | .inl e, v, s => v = -1000 * e.1 - e.2 ∧ MLOW r σ s ∧ s 82 7 = r
  | .inr L, v, s => v = r ∧ MLOW r σ s ∧ s 82 7 = r + 1 ∧ (s 96 r = l ∧ s 97 r = f ∧ s 98 r = t ∧ s 99 r = σ 82 2) ∧ s 100 r = L.length ∧ ∀ (i : Nat) (x : Cx), L[i]? = some x → MX2 r s (12 * r + i) x
section PU
variable {Ln : Int} {d : Nat} {ch : Int → Int} {n r l f t : Int} {σ : AS}
theorem sp_cRules (hG : CG ch n (160 * r)) (hT : n ≤ σ 2 1 ∧ ∀ q : Int, 0 ≤ q → q < n → σ 3 q = ch q) (hr : σ 24 14 = r) (hr2 : 0 ≤ r ∧ r < 20) (hl : 0 ≤ l ∧ l < 4) (hf : 0 ≤ f ∧ f ≤ 3999) (ht : 0 ≤ t ∧ t ≤ 3999) (hft : f ≤ t) (hn : 1 ≤ n) : am_M Ln (d + 28) 101 [vR 1, vI l, vI f, vI t, vI n] σ (am_rI (CRQ r l f t σ (pRules ch n 13 0 0))) := by
  have hgn := hG.2.2.1
  have no : ∀ {P : Prop} {K : Prop}, P → ¬ P → K := fun h h2 => absurd h h2
  refine vm_X11_rules _ _ _ _ _ ⟨fun z => absurd z (by omega), fun _ => ⟨fun z => absurd z (by omega), fun _ => cG sp_cDay (fun h => absurd hf h) (fun _ => cG sp_cDay (fun h => absurd ht h) (fun _ => ⟨fun _ => ⟨fun z => absurd z (by omega), fun _ => ⟨fun z => absurd z (by omega), fun _ => ⟨fun z => absurd z (by omega), fun _ => ⟨fun _ => cI (sp_read (D := d + 26) hG hT hr hr2 (by omega)) ?_, fun z => absurd (by omega) z⟩⟩⟩⟩, fun z => absurd hft z⟩))⟩⟩
  rintro v s5 ⟨C0, c1, c2, c3⟩
  cases hp : pRules ch n 13 0 0 with
  | inl e =>
    rw [hp] at c3
    obtain ⟨rfl, g⟩ := c3
    have he := gd_rules hG.1 13 0 0 (Int.le_refl 0) hgn.1 hgn.1
    rw [hp] at he
    have fA : Fr crX crF σ s5 := (c1.mo (by decide) (by decide)).tr (g.1.mo (by decide) (by decide))
    refine ⟨fun z => absurd z (by have := he.1; have := he.2; omega), fun _ => ⟨rfl, ⟨fA.up (Or.inr (by decide)), by rw [am_up_eq, if_pos rfl], fun j hj => ?_, fun x hx => ?_, fun x hx => ?_⟩, ?_⟩⟩
    · rw [am_up_ne (by decide), g.2.1 j hj, c1.cell 35 (by decide)]
    · obtain ⟨p1, p2, p3, p4, p5⟩ := g.2.2.1 x (by omega)
      rw [am_up_ne (by decide), am_up_ne (by decide), am_up_ne (by decide), am_up_ne (by decide), am_up_ne (by decide), p1, p2, p3, p4, p5, c1.cell 30 (by decide), c1.cell 31 (by decide), c1.cell 32 (by decide), c1.cell 33 (by decide), c1.cell 34 (by decide)]
      exact ⟨rfl, rfl, rfl, rfl, rfl⟩
    · rw [am_up_ne (by decide), am_up_ne (by decide), am_up_ne (by decide), am_up_ne (by decide), am_up_ne (by decide), g.1.cell 25 (by decide), g.1.cell 26 (by decide), g.1.cell 27 (by decide), g.1.cell 28 (by decide), g.2.2.2 x (by omega), c1.cell 25 (by decide), c1.cell 26 (by decide), c1.cell 27 (by decide), c1.cell 28 (by decide), c2 x (by omega)]
      exact ⟨rfl, rfl, rfl, rfl, rfl⟩
    · rw [am_up_ne (by decide), g.1.fld 24 14 (by decide), c1.fld 24 14 (by decide)]; exact hr
  | inr L =>
    rw [hp] at c3
    obtain ⟨rfl, g, g29, g7, gd⟩ := c3
    have fA : Fr crX crF σ s5 := (c1.mo (by decide) (by decide)).tr (g.1.mo (by decide) (by decide))
    refine ⟨fun _ => ?_, fun z => absurd rfl z⟩
    have e24 : (am_up s5 2 1 0) 24 14 = r := by rw [am_up_ne (by decide), g.1.fld 24 14 (by decide), c1.fld 24 14 (by decide)]; exact hr
    have e10 : s5 1 10 = σ 1 10 := fA.fld 1 10 (by decide)
    obtain ⟨τ, hτ⟩ : ∃ τ, τ = am_up (am_up (am_up (am_up (am_up (am_up s5 2 1 0) 25 r l) 26 r f) 27 r t) 28 r (s5 1 10)) 24 14 (r + 1) := ⟨_, rfl⟩
    refine cI (P := fun v s => v = r ∧ s = τ) (vm_X7_add _ _ _ _ _ ?_) ?_
    · rw [e24, w32_id (x := r + 1) (by omega) (by omega), w32_id (x := r + 1 - 1) (by omega) (by omega), ← hτ]
      exact ⟨fun _ => ⟨hr2, hr2, hr2, hr2, by omega, rfl⟩, fun z => absurd hr2.2 z⟩
    · rintro r8 s7 ⟨rfl, rfl⟩
      have fτ : Fr [25, 26, 27, 28] [(2, 1), (24, 14)] s5 s7 := by
        rw [hτ]
        exact Fr.up (Fr.up (Fr.up (Fr.up (Fr.up (Fr.up Fr.rf (Or.inr (by decide))) (Or.inl (by decide))) (Or.inl (by decide))) (Or.inl (by decide))) (Or.inl (by decide))) (Or.inr (by decide))
      have t25 : ∀ x, s7 25 x = if x = r8 then l else s5 25 x := fun x => by rw [hτ, am_up_ne (by decide), am_up_ne (by decide), am_up_ne (by decide), am_up_ne (by decide), am_up_eq, am_up_ne (by decide)]
      have t26 : ∀ x, s7 26 x = if x = r8 then f else s5 26 x := fun x => by rw [hτ, am_up_ne (by decide), am_up_ne (by decide), am_up_ne (by decide), am_up_eq, am_up_ne (by decide), am_up_ne (by decide)]
      have t27 : ∀ x, s7 27 x = if x = r8 then t else s5 27 x := fun x => by rw [hτ, am_up_ne (by decide), am_up_ne (by decide), am_up_eq, am_up_ne (by decide), am_up_ne (by decide), am_up_ne (by decide)]
      have t28 : ∀ x, s7 28 x = if x = r8 then s5 1 10 else s5 28 x := fun x => by rw [hτ, am_up_ne (by decide), am_up_eq, am_up_ne (by decide), am_up_ne (by decide), am_up_ne (by decide), am_up_ne (by decide)]
      refine ⟨rfl, ⟨fA.tr (fτ.mo (by decide) (by decide)), ?_, fun j hj => ?_, fun x hx => ?_, fun x hx => ?_⟩, ?_, ⟨?_, ?_, ?_, ?_⟩, ?_, fun i x hx => ?_⟩
      · rw [hτ, am_up_ne (by decide), am_up_ne (by decide), am_up_ne (by decide), am_up_ne (by decide), am_up_ne (by decide), am_up_eq, if_pos rfl]
      · rw [fτ.cell 35 (by decide), g.2.1 j hj, c1.cell 35 (by decide)]
      · obtain ⟨p1, p2, p3, p4, p5⟩ := g.2.2.1 x (by omega)
        rw [fτ.cell 30 (by decide), fτ.cell 31 (by decide), fτ.cell 32 (by decide), fτ.cell 33 (by decide), fτ.cell 34 (by decide), p1, p2, p3, p4, p5, c1.cell 30 (by decide), c1.cell 31 (by decide), c1.cell 32 (by decide), c1.cell 33 (by decide), c1.cell 34 (by decide)]
        exact ⟨rfl, rfl, rfl, rfl, rfl⟩
      · rw [t25, t26, t27, t28, if_neg (by omega), if_neg (by omega), if_neg (by omega), if_neg (by omega), fτ.cell 29 (by decide), g.1.cell 25 (by decide), g.1.cell 26 (by decide), g.1.cell 27 (by decide), g.1.cell 28 (by decide), g.2.2.2 x (by omega), c1.cell 25 (by decide), c1.cell 26 (by decide), c1.cell 27 (by decide), c1.cell 28 (by decide), c2 x (by omega)]
        exact ⟨rfl, rfl, rfl, rfl, rfl⟩
      · rw [hτ, am_up_eq, if_pos rfl]
      · rw [t25, if_pos rfl]
      · rw [t26, if_pos rfl]
      · rw [t27, if_pos rfl]
      · rw [t28, if_pos rfl]; exact e10
      · rw [fτ.cell 29 (by decide)]; exact g29
      · obtain ⟨p1, p2, p3, p4⟩ := gd i x hx
        rw [show r8 * 12 + (i : Int) = 12 * r8 + i by omega] at p1 p2 p3 p4
        refine ⟨by rw [fτ.cell 30 (by decide)]; exact p1, by rw [fτ.cell 31 (by decide)]; exact p2, fun y => by rw [fτ.cell 32 (by decide)]; exact p3 y, fun y => ?_⟩
        rw [fτ.cell 35 (by decide), fτ.cell 33 (by decide), fτ.cell 34 (by decide)]
        obtain ⟨p5, p6⟩ := p4 y
        exact ⟨p5, by omega⟩
theorem sp_mRules (hG : CG ch n (160 * r)) (hT : n ≤ σ 82 1 ∧ ∀ q : Int, 0 ≤ q → q < n → bAnd (σ 83 q) 255 = ch q) (hr : σ 82 7 = r) (hr2 : 0 ≤ r ∧ r < 20) (hl : 0 ≤ l ∧ l < 4) (hf : 0 ≤ f ∧ f ≤ 3999) (ht : 0 ≤ t ∧ t ≤ 3999) (hft : f ≤ t) (hn : 1 ≤ n) : am_M Ln (d + 12) 175 [vR 82, vI l, vI f, vI t, vI n] σ (am_rI (MMQ r l f t σ (pRules ch n 13 0 0))) := by
  have hgn := hG.2.2.1
  refine vm_X12_rules _ _ _ _ _ ⟨fun z => absurd z (by omega), fun _ => cI (sp_mlies (d := d + 10)) ?_⟩
  rintro r2 s1 ⟨h2, rfl⟩
  rw [if_pos (by omega)] at h2
  refine ⟨fun z => absurd z (by omega), fun _ => cG (sp_mDay (d := d + 9)) (fun h => absurd hf h) (fun _ => cG (sp_mDay (d := d + 9)) (fun h => absurd ht h) (fun _ => ⟨fun z => absurd z (by omega), fun _ => cI (sp_mlies (d := d + 10)) ?_⟩))⟩
  rintro r8 s7 ⟨h8, rfl⟩
  rw [if_pos (by omega)] at h8
  refine ⟨fun z => absurd z (by omega), fun _ => ⟨fun _ => ?_, fun z => absurd hT.1 z⟩⟩
  obtain ⟨τ, hτ⟩ : ∃ τ, τ = am_up (am_up (am_up (am_up (am_up (am_up s7 82 1 0) 82 35 0) 82 36 n) 82 37 0) 82 38 0) 82 39 0 := ⟨_, rfl⟩
  rw [← hτ]
  have fτ : Fr [] [(82, 1), (82, 35), (82, 36), (82, 37), (82, 38), (82, 39)] s7 τ := by
    rw [hτ]
    exact Fr.up (Fr.up (Fr.up (Fr.up (Fr.up (Fr.up Fr.rf (Or.inr (by decide))) (Or.inr (by decide))) (Or.inr (by decide))) (Or.inr (by decide))) (Or.inr (by decide))) (Or.inr (by decide))
  have v1 : τ 82 1 = 0 := by rw [hτ, am_up_eq, if_neg (by decide), am_up_eq, if_neg (by decide), am_up_eq, if_neg (by decide), am_up_eq, if_neg (by decide), am_up_eq, if_neg (by decide), am_up_eq, if_pos rfl]
  have v35 : τ 82 35 = 0 := by rw [hτ, am_up_eq, if_neg (by decide), am_up_eq, if_neg (by decide), am_up_eq, if_neg (by decide), am_up_eq, if_neg (by decide), am_up_eq, if_pos rfl]
  have v36 : τ 82 36 = n := by rw [hτ, am_up_eq, if_neg (by decide), am_up_eq, if_neg (by decide), am_up_eq, if_neg (by decide), am_up_eq, if_pos rfl]
  have v37 : τ 82 37 = 0 := by rw [hτ, am_up_eq, if_neg (by decide), am_up_eq, if_neg (by decide), am_up_eq, if_pos rfl]
  have v38 : τ 82 38 = 0 := by rw [hτ, am_up_eq, if_neg (by decide), am_up_eq, if_pos rfl]
  have v39 : τ 82 39 = 0 := by rw [hτ, am_up_eq, if_pos rfl]
  have hTτ : MTp ch n r τ := ⟨v36, by rw [fτ.fld 82 7 (by decide)]; exact hr, by rw [fτ.cell 83 (by decide)]; exact hT.2⟩
  have low : ∀ s, MRr r τ s → MLOW r s7 s := by
    intro s hs
    refine ⟨(fτ.mo (by decide) (by decide)).tr (hs.1.mo (by decide) (by decide)), by rw [hs.1.fld 82 1 (by decide)]; exact v1, fun j hj => ?_, fun x hx => ?_, fun x hx => ?_⟩
    · rw [(hs.2.1 j hj).1, (hs.2.1 j hj).2, fτ.cell 106 (by decide), fτ.cell 107 (by decide)]; exact ⟨rfl, rfl⟩
    · obtain ⟨p1, p2, p3, p4, p5⟩ := hs.2.2 x hx
      rw [p1, p2, p3, p4, p5, fτ.cell 101 (by decide), fτ.cell 102 (by decide), fτ.cell 103 (by decide), fτ.cell 104 (by decide), fτ.cell 105 (by decide)]
      exact ⟨rfl, rfl, rfl, rfl, rfl⟩
    · rw [hs.1.cell 96 (by decide), hs.1.cell 97 (by decide), hs.1.cell 98 (by decide), hs.1.cell 99 (by decide), hs.1.cell 100 (by decide), fτ.cell 96 (by decide), fτ.cell 97 (by decide), fτ.cell 98 (by decide), fτ.cell 99 (by decide), fτ.cell 100 (by decide)]
      exact ⟨rfl, rfl, rfl, rfl, rfl⟩
  refine lp_mrules (d := d) hG hTτ hr2 (R := pRules ch n 13 0 0) (fun e s hR he hs => ?_) (fun L s hR hs h38 h39 hd => ?_) 12 0 0 [] τ (by omega) (Int.le_refl 0) rfl (Int.le_refl 0) hgn.1 MRr.rf v37 v35 v38 (by omega) (by omega) (fun i x h => by rw [List.getElem?_nil] at h; cases h) ?_
  · show MMQ r l f t s7 (pRules ch n 13 0 0) _ s
    rw [hR]
    exact ⟨rfl, low s hs, by rw [hs.1.fld 82 7 (by decide)]; exact hTτ.2.1⟩
  · show MMQ r l f t s7 (pRules ch n 13 0 0) _ _
    rw [hR]
    obtain ⟨l1, l2, l3, l4, l5⟩ := low s hs
    obtain ⟨ω, hω⟩ : ∃ ω, ω = am_up (am_up (am_up (am_up (am_up (am_up s 96 r l) 97 r f) 98 r t) 99 r (s 82 2)) 100 r (s 82 38)) 82 7 (r + 1) := ⟨_, rfl⟩
    rw [← hω]
    have fω : Fr [96, 97, 98, 99, 100] [(82, 7)] s ω := by
      rw [hω]
      exact Fr.up (Fr.up (Fr.up (Fr.up (Fr.up (Fr.up Fr.rf (Or.inl (by decide))) (Or.inl (by decide))) (Or.inl (by decide))) (Or.inl (by decide))) (Or.inl (by decide))) (Or.inr (by decide))
    have w96 : ∀ x, ω 96 x = if x = r then l else s 96 x := fun x => by rw [hω, am_up_ne (by decide), am_up_ne (by decide), am_up_ne (by decide), am_up_ne (by decide), am_up_ne (by decide), am_up_eq]
    have w97 : ∀ x, ω 97 x = if x = r then f else s 97 x := fun x => by rw [hω, am_up_ne (by decide), am_up_ne (by decide), am_up_ne (by decide), am_up_ne (by decide), am_up_eq, am_up_ne (by decide)]
    have w98 : ∀ x, ω 98 x = if x = r then t else s 98 x := fun x => by rw [hω, am_up_ne (by decide), am_up_ne (by decide), am_up_ne (by decide), am_up_eq, am_up_ne (by decide), am_up_ne (by decide)]
    have w99 : ∀ x, ω 99 x = if x = r then s 82 2 else s 99 x := fun x => by rw [hω, am_up_ne (by decide), am_up_ne (by decide), am_up_eq, am_up_ne (by decide), am_up_ne (by decide), am_up_ne (by decide)]
    have w100 : ∀ x, ω 100 x = if x = r then s 82 38 else s 100 x := fun x => by rw [hω, am_up_ne (by decide), am_up_eq, am_up_ne (by decide), am_up_ne (by decide), am_up_ne (by decide), am_up_ne (by decide)]
    refine ⟨rfl, ⟨l1.tr (fω.mo (by decide) (by decide)), by rw [fω.fld 82 1 (by decide)]; exact l2, fun j hj => by rw [fω.cell 106 (by decide), fω.cell 107 (by decide)]; exact l3 j hj, fun x hx => by rw [fω.cell 101 (by decide), fω.cell 102 (by decide), fω.cell 103 (by decide), fω.cell 104 (by decide), fω.cell 105 (by decide)]; exact l4 x hx, fun x hx => ?_⟩, ?_, ⟨?_, ?_, ?_, ?_⟩, ?_, fun i x hx => ?_⟩
    · rw [w96, w97, w98, w99, w100, if_neg (by omega), if_neg (by omega), if_neg (by omega), if_neg (by omega), if_neg (by omega)]
      exact l5 x hx
    · rw [hω, am_up_eq, if_pos rfl]
    · rw [w96, if_pos rfl]
    · rw [w97, if_pos rfl]
    · rw [w98, if_pos rfl]
    · rw [w99, if_pos rfl, hs.1.fld 82 2 (by decide), fτ.fld 82 2 (by decide)]
    · rw [w100, if_pos rfl]; exact h38
    · obtain ⟨p1, p2, p3, p4⟩ := hd i x hx
      refine ⟨by rw [fω.cell 101 (by decide)]; exact p1, by rw [fω.cell 102 (by decide)]; exact p2, fun y => by rw [fω.cell 103 (by decide)]; exact p3 y, fun y => ?_⟩
      obtain ⟨p5, p6, m, p7, p8, p9⟩ := p4 y
      rw [fω.cell 104 (by decide), fω.cell 105 (by decide)]
      refine ⟨p5, by omega, m, ?_, p8, p9⟩
      unfold cds at p7 ⊢
      rw [fω.cell 106 (by decide), fω.cell 107 (by decide)]
      exact p7
  · cases pRules ch n (12 + 1) 0 0 with
    | inl e => rfl
    | inr L => rfl
end PU
