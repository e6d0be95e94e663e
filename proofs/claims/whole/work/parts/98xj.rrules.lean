/-! the class reads rules -/
def RRr (base r : Int) (σ σ' : AS) : Prop := Fr rdX cqF σ σ' ∧ (∀ j : Int, j < base → σ' 35 j = σ 35 j) ∧ (∀ x : Int, x < r * 12 → σ' 30 x = σ 30 x ∧ σ' 31 x = σ 31 x ∧ σ' 32 x = σ 32 x ∧ σ' 33 x = σ 33 x ∧ σ' 34 x = σ 34 x) ∧ ∀ x : Int, x ≠ r → σ' 29 x = σ 29 x
theorem RRr.rf {base r : Int} {σ : AS} : RRr base r σ σ := ⟨Fr.rf, fun _ _ => rfl, fun _ _ => ⟨rfl, rfl, rfl, rfl, rfl⟩, fun _ _ => rfl⟩
theorem RRr.tr {base r : Int} {σ s s' : AS} (h : RRr base r σ s) (h2 : RRr base r s s') : RRr base r σ s' := by
  obtain ⟨a1, a2, a3, a4⟩ := h
  obtain ⟨b1, b2, b3, b4⟩ := h2
  refine ⟨a1.tr b1, fun j hj => (b2 j hj).trans (a2 j hj), fun x hx => ?_, fun x hx => (b4 x hx).trans (a4 x hx)⟩
  obtain ⟨p1, p2, p3, p4, p5⟩ := a3 x hx
  obtain ⟨q1, q2, q3, q4, q5⟩ := b3 x hx
  exact ⟨q1.trans p1, q2.trans p2, q3.trans p3, q4.trans p4, q5.trans p5⟩
theorem RRr_of {base r c top : Int} {σ s : AS} (h : CFr r c top σ s) (hc : r * 12 ≤ c) (ht : base ≤ top) : RRr base r σ s :=
  ⟨h.1, fun j hj => h.2.1 j (by omega), fun x hx => h.2.2.1 x (by omega), h.2.2.2⟩
theorem RRr_39 {base r i v : Int} {σ s : AS} (h : RRr base r σ s) (hi : (39, i) ∈ cqF) : RRr base r σ (am_up s 39 i v) :=
  h.tr ⟨Fr.up Fr.rf (Or.inr hi), fun j _ => by rw [am_up_ne (by decide)], fun x _ => ⟨by rw [am_up_ne (by decide)], by rw [am_up_ne (by decide)], by rw [am_up_ne (by decide)], by rw [am_up_ne (by decide)], by rw [am_up_ne (by decide)]⟩, fun x _ => by rw [am_up_ne (by decide)]⟩
def RDQ (base r : Int) (σ : AS) : Sum (Int × Int) (List Cx) → Int → AS → Prop
  | .inl e, v, s => v = -1000 * e.1 - e.2 ∧ RRr base r σ s
  | .inr L, v, s => v = 0 ∧ RRr base r σ s ∧ s 29 r = L.length ∧ s 39 7 ≤ 160 ∧ ∀ (i : Nat) (x : Cx), L[i]? = some x → CXD base s (r * 12 + i) x
def appR (A : List Cx) : Sum (Int × Int) (List Cx) → Sum (Int × Int) (List Cx)
  | .inl e => .inl e
  | .inr L => .inr (A ++ L)
theorem CXD_fr {base r c top t : Int} {s s' : AS} {x : Cx} (h : CXD base s t x) (hf : CFr r c top s s') (ht : t ≠ c) (htop : base + s 39 7 ≤ top) (h7 : s 39 7 ≤ s' 39 7) : CXD base s' t x := by
  obtain ⟨h1, h2, h3, h4⟩ := h
  obtain ⟨f1, f2, f3, f4⟩ := hf
  obtain ⟨p1, p2, p3, p4, p5⟩ := f3 t ht
  refine ⟨p1.trans h1, p2.trans h2, fun y => p3.trans (h3 y), fun y => ?_⟩
  obtain ⟨g1, g2⟩ := h4 y
  rw [p4, p5]
  exact ⟨SX_congr g1 (fun j j0 j1 => f2 j (by omega)), by omega⟩
section RR
variable {Ln : Int} {ch : Int → Int} {n base r : Int} {σ : AS} {D : Nat}
theorem rd_end {x3 j : Int} {s : AS} {e : Int × Int} (hx : x3 = 0 ∨ 12 < j) (h4 : s 39 4 = e.1) (h5 : s 39 5 = e.2) (he : (0 ≤ e.1 ∧ e.1 ≤ 5) ∧ 0 ≤ e.2 ∧ e.2 ≤ 160) {Q : Int → AS → Prop} (hQ : Q (-1000 * e.1 - e.2) s) : am_E Ln D 54 62 [vR 39, vU, vI r, vI x3, vI j] [] s (am_rI Q) := by
  have key : (am_rI Q) (some (vI (w32 (w32 ((-1000) * (s 39 4)) - (s 39 5))))) s := by
    rw [h4, h5, w32_id (x := -1000 * e.1) (by omega) (by omega), w32_id (x := -1000 * e.1 - e.2) (by omega) (by omega)]
    exact hQ
  refine vl_X8_read_62 _ _ _ _ ⟨fun _ => key, fun z => ⟨fun _ => key, fun y => ?_⟩⟩
  rcases hx with v | v
  · exact absurd v y
  · exact absurd v z
theorem lp_read (hG : CG ch n base) (hT : CT ch n base σ) (hD : 26 ≤ D) (hr : 0 ≤ r ∧ r < 20) : ∀ (m : Nat) (j q : Int) (A : List Cx) (s : AS), j + m = 12 → 0 ≤ j → (A.length : Int) = j → 0 ≤ q → q ≤ n → RRr base r σ s → s 39 4 = 0 → s 39 5 = 0 → s 39 3 = q → 0 ≤ s 39 7 → s 39 7 ≤ q → s 29 r = j → (∀ (i : Nat) (x : Cx), A[i]? = some x → CXD base s (r * 12 + i) x) →
    am_E Ln D 54 62 [vR 39, vU, vI r, vI 1, vI j] [] s (am_rI (RDQ base r σ (appR A (pRules ch n (m + 1) j q)))) := by
  obtain ⟨D', rfl⟩ : ∃ D', D = D' + 4 := ⟨D - 4, by omega⟩
  have hgn := hG.2.2.1
  have hb := hG.2.2.2
  intro m
  induction m with
  | zero =>
    intro j q A s hm h0 hA hq hqn hR h4 h5 h3 h7 h7q h29 hd
    have hT' := CT_rd hT hR.1
    refine vl_X8_read_62 _ _ _ _ ⟨fun z => absurd z (by omega), fun _ => ⟨fun z => absurd z (by decide), fun _ => cV (sp_readClause (D := D' + 3) (q := q) (u := s 39 7) hG hT' (by omega) h4 h3 rfl ⟨hq, hqn⟩ ⟨h7, h7q⟩ hr ⟨h0, by omega⟩) ?_⟩⟩
    intro s1 hs1
    have hpc : ∃ e, pClause ch n j q = .inl e := by
      unfold pClause
      by_cases hl : isC (ch q) = true
      · rw [if_pos hl, if_pos (by omega)]; exact ⟨_, rfl⟩
      · rw [if_neg hl]; exact ⟨_, rfl⟩
    obtain ⟨e, hpc⟩ := hpc
    have hg := gd_clause hG.1 (j := j) hq hqn
    rw [hpc] at hs1 hg
    have hR1 : RRr base r σ s1 := hR.tr (RRr_of hs1.1 (by omega) (Int.le_refl base))
    refine ⟨fun z => absurd z (by rw [hs1.2.1]; have := hg.1; omega), fun _ => ⟨fun _ => ?_, fun z => absurd rfl z⟩⟩
    rw [pRules, hpc]
    exact rd_end (Or.inl rfl) hs1.2.1 hs1.2.2.1 (by have := hg.1; have := hg.2; omega) ⟨rfl, hR1⟩
  | succ m ih =>
    intro j q A s hm h0 hA hq hqn hR h4 h5 h3 h7 h7q h29 hd
    have hT' := CT_rd hT hR.1
    refine vl_X8_read_62 _ _ _ _ ⟨fun z => absurd z (by omega), fun _ => ⟨fun z => absurd z (by decide), fun _ => cV (sp_readClause (D := D' + 3) (q := q) (u := s 39 7) hG hT' (by omega) h4 h3 rfl ⟨hq, hqn⟩ ⟨h7, h7q⟩ hr ⟨h0, by omega⟩) ?_⟩⟩
    intro s1 hs1
    have hg := gd_clause hG.1 (j := j) hq hqn
    rw [pRules]
    cases hpc : pClause ch n j q with
    | inl e =>
      rw [hpc] at hs1 hg
      have hR1 : RRr base r σ s1 := hR.tr (RRr_of hs1.1 (by omega) (Int.le_refl base))
      refine ⟨fun z => absurd z (by rw [hs1.2.1]; have := hg.1; omega), fun _ => ⟨fun _ => ?_, fun z => absurd rfl z⟩⟩
      exact rd_end (Or.inl rfl) hs1.2.1 hs1.2.2.1 (by have := hg.1; have := hg.2; omega) ⟨rfl, hR1⟩
    | inr x =>
      rw [hpc] at hs1 hg
      obtain ⟨g1, g2, g3, g4, g5, g6, g7⟩ := hs1
      have hgp := hg.1
      have hR1 : RRr base r σ s1 := hR.tr (RRr_of g1 (by omega) (by omega))
      have hT1 := CT_rd hT hR1.1
      have e5 : s1 39 5 = 0 := by rw [g3]; exact h5
      have hd1 : ∀ (i : Nat) (y : Cx), (A ++ [(ch q, x.2)])[i]? = some y → CXD base s1 (r * 12 + i) y := by
        intro i y hy
        rw [List.getElem?_append] at hy
        by_cases z : i < A.length
        · rw [if_pos z] at hy
          exact CXD_fr (hd i y hy) g1 (by omega) (Int.le_refl _) (by omega)
        · rw [if_neg z] at hy
          by_cases z2 : i - A.length = 0
          · rw [z2] at hy
            have : (ch q, x.2) = y := by
              have := hy
              rw [List.getElem?_cons_zero] at this
              exact Option.some.inj this
            rw [← this, show r * 12 + (i : Int) = r * 12 + j by omega]
            exact g7
          · rw [List.getElem?_eq_none (by rw [List.length_singleton]; omega)] at hy
            cases hy
      refine ⟨fun _ => ⟨fun z => ⟨fun _ => ?_, fun y => absurd rfl y⟩, fun z => ⟨fun y => absurd y (by decide), fun _ => ?_⟩⟩, fun z => absurd g2 z⟩
      · rw [hT1.1, g4] at z
        dsimp only
        rw [if_neg (by omega)]
        refine rd_end (e := (0, 0)) (Or.inl rfl) g2 e5 (by decide) ⟨rfl, hR1, ?_, by omega, hd1⟩
        rw [g6, List.length_append, List.length_singleton]
        omega
      · rw [hT1.1, g4] at z
        dsimp only
        rw [if_pos (by omega)]
        refine cV (sp_passG (d := D' + 1) hG hT1 g2 g4 ⟨by omega, hgp.2⟩ (c := 59) (by decide)) ?_
        rintro s3 ⟨k1, k2⟩
        rw [w32_id (x := j + 1) (by omega) (by omega)]
        by_cases zc : ch x.1 = 59
        · rw [k1 zc, if_pos zc]
          have key := ih (j + 1) (x.1 + 1) (A ++ [(ch q, x.2)]) (am_up s1 39 3 (x.1 + 1)) (by omega) (by omega) (by rw [List.length_append, List.length_singleton]; omega) (by omega) (by omega) (RRr_39 hR1 (by decide)) (by rw [am_up_eq, if_neg (by decide)]; exact g2) (by rw [am_up_eq, if_neg (by decide)]; exact e5) (by rw [am_up_eq, if_pos rfl]) (by rw [am_up_eq, if_neg (by decide)]; omega) (by rw [am_up_eq, if_neg (by decide)]; omega) (by rw [am_up_ne (by decide)]; exact g6) (fun i y hy => by
            obtain ⟨p1, p2, p3, p4⟩ := hd1 i y hy
            refine ⟨by rw [am_up_ne (by decide)]; exact p1, by rw [am_up_ne (by decide)]; exact p2, fun v => by rw [am_up_ne (by decide)]; exact p3 v, fun v => ?_⟩
            rw [am_up_ne (by decide : 35 ≠ 39), am_up_ne (by decide : 33 ≠ 39), am_up_ne (by decide : 34 ≠ 39), am_up_eq, if_neg (by decide)]
            exact p4 v)
          refine am_EI key (fun v s' hs => ?_)
          cases hp : pRules ch n (m + 1) (j + 1) (x.1 + 1) with
          | inl e => rw [hp] at hs; exact hs
          | inr L =>
            rw [hp] at hs
            show RDQ base r σ (.inr (A ++ ((ch q, x.2) :: L))) v s'
            have : appR (A ++ [(ch q, x.2)]) (.inr L) = .inr (A ++ ((ch q, x.2) :: L)) := by
              show Sum.inr ((A ++ [(ch q, x.2)]) ++ L) = _
              rw [List.append_assoc]
              rfl
            rw [this] at hs
            exact hs
        · rw [k2 zc, if_neg zc]
          -- one more turn, with the fault
          have hR3 : RRr base r σ (am_up (am_up (am_up s1 39 4 1) 39 5 x.1) 39 3 (x.1 + 1)) := RRr_39 (RRr_39 (RRr_39 hR1 (by decide)) (by decide)) (by decide)
          have hK : KF r (r * 12 + (j + 1)) base (n + 1) (1, x.1) (am_up (am_up (am_up s1 39 4 1) 39 5 x.1) 39 3 (x.1 + 1)) (am_up (am_up (am_up s1 39 4 1) 39 5 x.1) 39 3 (x.1 + 1)) := by
            refine ⟨CFr.rf, ?_, ?_, ?_, ?_⟩
            · rw [am_up_eq, if_neg (by decide), up45_4]
            · rw [am_up_eq, if_neg (by decide), up45_5]
            · rw [am_up_eq, if_neg (by decide), up45_7]; omega
            · rw [am_up_eq, if_pos rfl]; omega
          refine vl_X8_read_62 _ _ _ _ ⟨fun v => absurd v (by omega), fun _ => ⟨fun v => absurd v (by decide), fun _ => cV (sp_readClauseF (D := D' + 3) hG (CT_rd hT hR3.1) (by omega) hK (by show (1 : Int) ≠ 0; decide) (by omega) (Int.le_refl base) hr ⟨by omega, by omega⟩) ?_⟩⟩
          intro s5 hs5
          refine ⟨fun v => absurd v (by rw [hs5.2.1]; show ¬ (1 : Int) = 0; decide), fun _ => ⟨fun _ => ?_, fun v => absurd rfl v⟩⟩
          exact rd_end (e := (1, x.1)) (Or.inl rfl) hs5.2.1 hs5.2.2.1 ⟨by dsimp only; decide, by show 0 ≤ x.1 ∧ x.1 ≤ 160; omega⟩ ⟨rfl, hR3.tr (RRr_of hs5.1 (by omega) (Int.le_refl base))⟩
/-- the class reads rules -/
theorem sp_read {C : AS} {n r : Int} {ch : Int → Int} (hG : CG ch n (160 * r)) (hT : n ≤ C 2 1 ∧ ∀ q : Int, 0 ≤ q → q < n → C 3 q = ch q) (hr : C 24 14 = r) (hr2 : 0 ≤ r ∧ r < 20) (hD : 26 ≤ D) : am_M Ln (D + 1) 54 [vR 39, vI n] C (am_rI fun v s => ∃ C0 : AS, Fr [29] [(39, 2), (39, 3), (39, 4), (39, 5), (39, 6), (39, 7)] C C0 ∧ (∀ x : Int, x ≠ r → C0 29 x = C 29 x) ∧ RDQ (160 * r) r C0 (pRules ch n 13 0 0) v s) := by
  have hgn := hG.2.2.1
  refine vm_X8_read _ _ ?_
  rw [hr, show min r (19 : Int) = r by omega, w32_id (x := r * 160) (by omega) (by omega)]
  obtain ⟨C0, hC0⟩ : ∃ C0, C0 = (am_up (am_up (am_up (am_up (am_up (am_up (am_up C 39 2 n) 39 3 0) 39 4 0) 39 5 0) 39 6 (r * 160)) 39 7 0) 29 r 0) := ⟨_, rfl⟩
  rw [← hC0]
  have hF : Fr [29] [(39, 2), (39, 3), (39, 4), (39, 5), (39, 6), (39, 7)] C C0 := by
    rw [hC0]
    exact Fr.up (Fr.up (Fr.up (Fr.up (Fr.up (Fr.up (Fr.up Fr.rf (Or.inr (by decide))) (Or.inr (by decide))) (Or.inr (by decide))) (Or.inr (by decide))) (Or.inr (by decide))) (Or.inr (by decide))) (Or.inl (by decide))
  have x2 : C0 39 2 = n := by rw [hC0, am_up_ne (by decide), am_up_eq, if_neg (by decide), am_up_eq, if_neg (by decide), am_up_eq, if_neg (by decide), am_up_eq, if_neg (by decide), am_up_eq, if_neg (by decide), am_up_eq, if_pos rfl]
  have x3 : C0 39 3 = 0 := by rw [hC0, am_up_ne (by decide), am_up_eq, if_neg (by decide), am_up_eq, if_neg (by decide), am_up_eq, if_neg (by decide), am_up_eq, if_neg (by decide), am_up_eq, if_pos rfl]
  have x4 : C0 39 4 = 0 := by rw [hC0, am_up_ne (by decide), am_up_eq, if_neg (by decide), am_up_eq, if_neg (by decide), am_up_eq, if_neg (by decide), am_up_eq, if_pos rfl]
  have x5 : C0 39 5 = 0 := by rw [hC0, am_up_ne (by decide), am_up_eq, if_neg (by decide), am_up_eq, if_neg (by decide), am_up_eq, if_pos rfl]
  have x6 : C0 39 6 = 160 * r := by rw [hC0, am_up_ne (by decide), am_up_eq, if_neg (by decide), am_up_eq, if_pos rfl]; omega
  have x7 : C0 39 7 = 0 := by rw [hC0, am_up_ne (by decide), am_up_eq, if_pos rfl]
  have x29 : C0 29 r = 0 := by rw [hC0, am_up_eq, if_pos rfl]
  refine ⟨by omega, ?_⟩
  have key := lp_read (Ln := Ln) (ch := ch) (n := n) (base := 160 * r) (r := r) (σ := C0) (D := D) hG ⟨x2, x6, by rw [hF.fld 2 1 (by decide)]; exact hT.1, by rw [hF.cell 3 (by decide)]; exact hT.2⟩ hD hr2 12 0 0 [] C0 (by omega) (Int.le_refl 0) rfl (Int.le_refl 0) hgn.1 RRr.rf x4 x5 x3 (by omega) (by omega) x29 (fun i x h => by rw [List.getElem?_nil] at h; cases h)
  refine am_EI key (fun v s hs => ⟨C0, hF, fun x hx => ?_, ?_⟩)
  · rw [hC0, am_up_eq, if_neg hx]
    rw [am_up_ne (by decide), am_up_ne (by decide), am_up_ne (by decide), am_up_ne (by decide), am_up_ne (by decide), am_up_ne (by decide)]
  · cases hp : pRules ch n 13 0 0 with
    | inl e => rw [show (12 + 1 : Nat) = 13 from rfl, hp] at hs; exact hs
    | inr L => rw [show (12 + 1 : Nat) = 13 from rfl, hp] at hs; exact hs
end RR
