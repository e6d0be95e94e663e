/-! questions: part, took, way, beside -/
def partV (l : MP) (i w : Int) : Int := match l[i.toNat]? with
  | some q => if w = 0 then q.1 else q.2
  | none => -1
theorem lp_placeOf {Ln : Int} {d : Nat} {σ : AS} {p i : Int} (hz : 0 ≤ σ 41 3 ∧ σ 41 3 ≤ 1010) (hi : i ≤ 2147483000) : ∀ (q : Nat) (k a : Int), 0 ≤ k → 0 ≤ a → a ≤ i → a ≤ k → (σ 41 3 - k).toNat = q →
    am_E Ln d 87 5 [vR 41, vI p, vI i, vI a, vI k] [] σ (am_rI fun r s => s = σ ∧ ((r = -1 ∧ (pj p (xsf σ k))[(i - a).toNat]? = none) ∨ ((0 ≤ r ∧ r < 1010) ∧ (pj p (xsf σ k))[(i - a).toNat]? = some (σ 43 r, σ 44 r)))) := by
  intro q
  induction q with
  | zero =>
    intro k a h0 h1 h2 h3 hq
    refine vl_X9_placeOf_5 _ _ _ _ _ ⟨fun _ => ⟨rfl, Or.inl ⟨rfl, ?_⟩⟩, fun h => absurd (by omega) h⟩
    rw [xsf_nil (by omega), pj_nil]
    rfl
  | succ q ih =>
    intro k a h0 h1 h2 h3 hq
    have hlt : k < σ 41 3 := by omega
    rw [xsf_cons hlt, pj_cons]
    refine vl_X9_placeOf_5 _ _ _ _ _ ⟨fun h => absurd h (by omega), fun _ => ⟨⟨h0, by omega⟩, fun e => ⟨fun e2 => ⟨rfl, Or.inr ⟨⟨h0, by omega⟩, ?_⟩⟩, fun e2 => ?_⟩, fun e => ?_⟩⟩
    · rw [if_pos e, show (i - a).toNat = 0 by omega]
      rfl
    · rw [if_pos e, w32_id (by omega) (by omega), w32_id (by omega) (by omega)]
      have key := ih (k + 1) (a + 1) (by omega) (by omega) (by omega) (by omega) (by omega)
      rw [show (i - a).toNat = (i - (a + 1)).toNat + 1 by omega, List.getElem?_cons_succ]
      exact key
    · rw [if_neg e, w32_id (by omega) (by omega)]
      exact ih (k + 1) a (by omega) h1 h2 (by omega) (by omega)
theorem takeW_lt {P : Int → Bool} {i : Int} : ∀ {l : List Int}, i ∈ l → P i = false → (l.takeWhile P).length < l.length
  | [], h, _ => by cases h
  | a :: l, h, hp => by
    rw [List.takeWhile_cons]
    split
    · rename_i ha
      rw [List.length_cons, List.length_cons]
      have : i ∈ l := by
        rcases List.mem_cons.mp h with e | e
        · rw [e, ha] at hp; cases hp
        · exact e
      have := takeW_lt this hp
      omega
    · simp
theorem takeW_mem {P : Int → Bool} {x : Int} : ∀ {l : List Int}, x ∈ l.takeWhile P → x ∈ l
  | [], h => by simp at h
  | a :: l, h => by
    rw [List.takeWhile_cons] at h
    split at h
    · rcases List.mem_cons.mp h with e | e
      · rw [e]; exact List.mem_cons_self
      · exact List.mem_cons_of_mem _ (takeW_mem e)
    · cases h
theorem preL_ok {C : AS} {n : Nat} {t i : Int} (hO : OKB C n) (hD : OKD C) (hi : 0 ≤ i ∧ i < C 7 11) (hk : knw C t i = true) : (∀ x ∈ preL C t i, 0 ≤ x ∧ x < C 7 11) ∧ (preL C t i).length < 100 := by
  refine ⟨fun x hx => lst_rng hO x (takeW_mem hx), ?_⟩
  have hm : i ∈ lst C 3999 t (C 7 11) := (lst_in hO.2.2.2.2.2.1).mpr ⟨hi, hk, (hD i hi.1 hi.2).2⟩
  have h1 := takeW_lt (P := fun x => !decide (x = i)) hm (by simp)
  have h2 := lst_len (C := C) (dd := 3999) (t := t) (k := C 7 11) hO.2.2.2.2.1.2
  unfold preL
  omega
theorem sp_mTakes {Ln : Int} {d : Nat} {C σ : AS} {i : Int} (hB : BK C) (hf : Fr wkX wkF C σ) (h : 0 ≤ i ∧ i < 100) : am_M Ln (d + 1) 213 [vR 82, vI i] σ (am_rI fun r s => r = (if tkD (C 8 i) = true then 1 else 0) ∧ s = σ) := by
  have e : σ 86 = C 8 := by rw [hf.cell 86 (by decide)]; exact hB.1.2.2.1
  refine vm_X12_takesAny _ _ ⟨h, ?_⟩
  rw [e]
  refine ⟨fun e1 => ⟨am_b1, ?_, rfl⟩, fun e1 => ⟨h, fun e2 => ⟨am_b1, ?_, rfl⟩, fun e2 => ⟨h, fun e3 => ⟨am_b1, ?_, rfl⟩, fun e3 => ⟨am_b0, ?_, rfl⟩⟩⟩⟩
  · rw [if_pos (tkD_iff.mpr (Or.inl e1))]
  · rw [if_pos (tkD_iff.mpr (Or.inr (Or.inl e2)))]
  · rw [if_pos (tkD_iff.mpr (Or.inr (Or.inr e3)))]
  · rw [if_neg (fun q => by rcases tkD_iff.mp q with z | z | z; exact e1 z; exact e2 z; exact e3 z)]
section QU
variable {Ln : Int} {σ : AS} {n : Nat} {G : Int → GF}
theorem pr_part (hI : INV σ n G) (p i w : Int) (hi32 : i < 2147483648) : PR Ln 106 [vR 1, vI p, vI i, vI w] 211 [vR 82, vI p, vI i, vI w] σ := by
  obtain ⟨k, hk, hm, hmn⟩ := mAll_ok0 (F := findF σ G) (dd := σ 1 10) (t := σ 1 10) hI.1
  have hP := hI.2.2.2.1.2.1
  have hlen : ∀ p : Int, 0 ≤ p → p < 10 → ((mAll σ (findF σ G) (σ 1 10) (σ 1 10)).1 p).length ≤ 1000 := by
    intro p a b
    have := sm_one (f := fun p => (((mAll σ (findF σ G) (σ 1 10) (σ 1 10)).1 p).length : Int)) (n := 10) (fun i _ _ => by omega) a (by omega)
    have h3 := hm.2.2.1
    unfold mst at h3
    omega
  refine pr_ans (c := (0 ≤ p ∧ p < σ 4 2) ∧ 0 ≤ i ∧ (w = 0 ∨ w = 1)) (v := partV ((mAll σ (findF σ G) (σ 1 10) (σ 1 10)).1 p) i w) (w := -1) (cs := clX) (fs := clF) (cs' := pmX) (fs' := pmF) hI ?_ (fun s hs => ?_) (by decide) (by decide)
  · refine vm_X11_part _ _ _ _ (cG sp_cPurse (fun h => ansN (fun q => h q.1)) (fun g1 => ⟨fun h => ansN (fun q => by omega), fun g2 => ⟨fun h => ansN (fun q => by omega), fun g3 => ⟨fun g4 => cV (c_playAll hI) ?_, fun h => ansN (fun q => by omega)⟩⟩⟩))
    rintro s9 ⟨x1, x2, x3, -⟩
    have hxp := x1.2.1 p g1.1 (by omega)
    have hz := x1.1.1
    by_cases hbig : i ≤ 2147483000
    · refine cI (vm_X9_placeOf _ _ _ (lp_placeOf hz hbig _ 0 0 (by omega) (by omega) (by omega) (by omega) rfl)) ?_
      rintro r s4 ⟨rfl, hr⟩
      rw [xp_sf, hxp, Int.sub_zero] at hr
      unfold partV
      refine ⟨fun e => ?_, fun e => ⟨fun e2 => ?_, fun e2 => ?_⟩⟩
      · rcases hr with ⟨-, h⟩ | ⟨h, -⟩
        · exact ansY ⟨g1, by omega, by omega⟩ (by rw [h]) x2
        · omega
      · rcases hr with ⟨h, -⟩ | ⟨h, h2⟩
        · exact absurd h e
        · exact ⟨h, ansY ⟨g1, by omega, by omega⟩ (by rw [h2]; dsimp only; rw [if_pos e2]) x2⟩
      · rcases hr with ⟨h, -⟩ | ⟨h, h2⟩
        · exact absurd h e
        · exact ⟨h, ansY ⟨g1, by omega, by omega⟩ (by rw [h2]; dsimp only; rw [if_neg e2]) x2⟩
    · -- so far there is none
      have gen : ∀ (q : Nat) (k a : Int), 0 ≤ k → 0 ≤ a → a ≤ k → (s9 41 3 - k).toNat = q → am_E Ln 998 87 5 [vR 41, vI p, vI i, vI a, vI k] [] s9 (am_rI fun r s => s = s9 ∧ r = -1) := by
        intro q
        induction q with
        | zero =>
          intro k a h0 h1 h2 hq
          exact vl_X9_placeOf_5 _ _ _ _ _ ⟨fun _ => ⟨rfl, rfl⟩, fun h => absurd (by omega) h⟩
        | succ q ih =>
          intro k a h0 h1 h2 hq
          refine vl_X9_placeOf_5 _ _ _ _ _ ⟨fun h => absurd h (by omega), fun _ => ⟨⟨h0, by omega⟩, fun e => ⟨fun e2 => absurd e2 (by omega), fun e2 => ?_⟩, fun e => ?_⟩⟩
          · rw [w32_id (by omega) (by omega), w32_id (by omega) (by omega)]
            exact ih (k + 1) (a + 1) (by omega) (by omega) (by omega) (by omega)
          · rw [w32_id (by omega) (by omega)]
            exact ih (k + 1) a (by omega) h1 (by omega) (by omega)
      refine cI (vm_X9_placeOf _ _ _ (gen _ 0 0 (by omega) (by omega) (by omega) rfl)) ?_
      rintro r s4 ⟨rfl, rfl⟩
      have hl := hlen p g1.1 (by omega)
      refine ⟨fun _ => ansY ⟨g1, by omega, by omega⟩ ?_ x2, fun e => absurd rfl e⟩
      unfold partV
      rw [List.getElem?_eq_none (by omega)]
  · have hf : Fr wkX wkF σ s := hs.mo (by decide) (by decide)
    have hB := hI.1.1
    have e2 : s 82 2 = σ 1 10 := by rw [hf.fld 82 2 (by decide)]; exact hB.2.2.2.1
    refine vm_X12_part _ _ _ _ (cG (sp_mPurse hB hf (by omega)) (fun h => ansN (fun q => h q.1)) (fun g1 => ?_))
    rw [e2]
    refine cV (m_plays hI hs (by decide) (by decide) (hs.cell 121 (by decide))) ?_
    rintro s5 ⟨x1, x2⟩
    have hrow := (x1.1 p g1.1 (by omega))
    have hl := hlen p g1.1 (by omega)
    have hml := mp_len hrow.2
    rw [hrow.1] at hml
    have hget : 0 ≤ i → i < s5 113 p → ((mAll σ (findF σ G) (σ 1 10) (σ 1 10)).1 p)[i.toNat]? = some (s5 114 (1400 * p + i), s5 115 (1400 * p + i)) := by
      intro a b
      rw [← hrow.1]
      exact rl_get _ a b
    rw [w32_id (x := s5 113 p - 1) (by omega) (by omega)]
    refine ⟨⟨g1.1, by omega⟩, cG sp_mlies (fun h => ?_) (fun h => ?_)⟩
    · by_cases hc : (0 ≤ p ∧ p < σ 4 2) ∧ 0 ≤ i ∧ (w = 0 ∨ w = 1)
      · refine ansY hc ?_ x2
        unfold partV
        rw [List.getElem?_eq_none (by omega)]
      · exact ansNs hc x2
    · have hg := hget h.1 (by omega)
      rw [w32_id (x := 1400 * p) (by omega) (by omega), w32_id (x := 1400 * p + i) (by omega) (by omega)]
      refine ⟨fun e => ⟨⟨by omega, by omega⟩, ansY ⟨g1, h.1, Or.inl e⟩ (by unfold partV; rw [hg]; dsimp only; rw [if_pos e]) x2⟩, fun e => ⟨fun e1 => ⟨⟨by omega, by omega⟩, ansY ⟨g1, h.1, Or.inr e1⟩ (by unfold partV; rw [hg]; dsimp only; rw [if_neg e]) x2⟩, fun e1 => ansNs (fun q => q.2.2.elim e e1) x2⟩⟩
theorem lp_mtook {d : Nat} {s : AS} {i o came : Int} (hB : BK σ) (hf : Fr wkX wkF σ s) (hi : 0 ≤ i ∧ i < 100) (hc : 0 ≤ came ∧ came ≤ 1000000) (ht : 0 ≤ s 82 54 ∧ s 82 54 ≤ 1390) (hnn : ∀ q ∈ mt s, 0 ≤ q.2) (hps : psum (mt s) ≤ 1000000) : ∀ (q : Nat) (j : Int), 0 ≤ j → j ≤ s 82 54 → (s 82 54 - j).toNat = q →
    am_E Ln (d + 1) 214 60 [vR 82, vI i, vI o, vU, vI (came + (if tkD (σ 8 i) = true then pof o (mtp s j) else 0)), vI j] [] s (am_rI fun r s' => r = came + (if tkD (σ 8 i) = true then pof o (mt s) else 0) ∧ s' = s) := by
  intro q
  induction q with
  | zero =>
    intro j h0 h1 hq
    obtain rfl : j = s 82 54 := by omega
    exact vl_X12_took_60 _ _ _ _ _ ⟨fun _ => ⟨rfl, rfl⟩, fun h => absurd (by omega) h⟩
  | succ q ih =>
    intro j h0 h1 hq
    have key := ih (j + 1) (by omega) (by omega) (by omega)
    have hb := mtp_bd (σ := s) (n := s 82 54) h0 (by omega) hnn o
    have hps' : psum (mtp s (s 82 54)) ≤ 1000000 := hps
    rw [mtp_succ h0, pof_app, pof_one] at key
    refine vl_X12_took_60 _ _ _ _ _ ⟨fun h => absurd h (by omega), fun _ => cG (sp_mTakes hB hf hi) (fun h => ?_) (fun h => ⟨⟨h0, by omega⟩, fun e => ⟨⟨h0, by omega⟩, ?_⟩, fun e => ?_⟩)⟩
    · rw [if_neg h] at key ⊢
      rw [w32_id (x := came + 0 + 0) (by omega) (by omega), w32_id (by omega) (by omega), show came + 0 + 0 = came + 0 by omega]
      exact key
    · rw [if_pos h, if_pos e] at key
      rw [if_pos h, w32_id (x := came + pof o (mtp s j) + s 119 j) (by omega) (by omega), w32_id (by omega) (by omega), Int.add_assoc]
      exact key
    · rw [if_pos h, if_neg e] at key
      rw [if_pos h, w32_id (x := came + pof o (mtp s j) + 0) (by omega) (by omega), w32_id (by omega) (by omega), Int.add_assoc]
      exact key
theorem pr_took (hI : INV σ n G) (i o t : Int) : PR Ln 107 [vR 1, vI i, vI o, vI t] 214 [vR 82, vI i, vI o, vI t] σ := by
  have hn := INV_n hI
  have h10 : σ 1 11 ≤ 10 := by have := hI.1.2.1; have := hI.1.2.2.1; omega
  have hL := hI.1.2.2.2.2.1
  refine pr_ans (c := (0 ≤ i ∧ i < σ 7 11) ∧ (0 ≤ o ∧ o < σ 1 11) ∧ (0 ≤ t ∧ t ≤ 3999)) (v := if knw σ t i = true then (if mfail σ i (mPre σ (findF σ G) t i) = true then -2 else mgot σ (findF σ G) t fo0 i (mPre σ (findF σ G) t i) o) else -3) (w := -1) (cs := clX) (fs := clF) (cs' := pmX) (fs' := pmF) hI ?_ (fun s hs => ?_) (by decide) (by decide)
  · refine vm_X11_took _ _ _ _ (cG sp_cLine (fun h => ansN (fun q => h q.1)) (fun g1 => cG sp_cPerson (fun h => ansN (fun q => h q.2.1)) (fun g2 => cG sp_cDay (fun h => ansN (fun q => h q.2.2)) (fun g3 => cI (sp_playThrough (t := t) hI.1 hI.2.1 (ruX_find hI.2.2.1) Fr.rf g1) ?_))))
    rintro r8 s7 ⟨x1, x2, x3⟩
    refine ⟨fun e => ?_, fun e => ?_⟩
    · refine ansY ⟨g1, g2, g3⟩ ?_ x2
      rw [if_neg (fun z => by rw [if_pos z] at x1; omega)]
    · have hk : knw σ t i = true := by
        by_cases z : knw σ t i = true
        · exact z
        · rw [if_neg z] at x1; exact absurd x1 e
      obtain ⟨y1, y2, y3⟩ := x3 hk
      rw [if_pos hk]
      refine ⟨fun e2 => ⟨⟨g2.1, by omega⟩, ?_⟩, fun e2 => ?_⟩
      · have hm : mfail σ i (mPre σ (findF σ G) t i) = false := by
          by_cases z : mfail σ i (mPre σ (findF σ G) t i) = true
          · rw [if_pos z] at y1; omega
          · simpa using z
        refine ansY ⟨g1, g2, g3⟩ ?_ x2
        rw [hm, if_neg (by decide)]
        exact y3 hm o g2.1 (by omega)
      · have hm : mfail σ i (mPre σ (findF σ G) t i) = true := by
          by_cases z : mfail σ i (mPre σ (findF σ G) t i) = true
          · exact z
          · rw [if_neg z] at y1; exact absurd y1 e2
        exact ansY ⟨g1, g2, g3⟩ (by rw [if_pos hm]) x2
  · have hf : Fr wkX wkF σ s := hs.mo (by decide) (by decide)
    have hB := hI.1.1
    have hM := ruM_find (Ln := Ln) hI.1.1 hI.2.2.1 hI.1.2.1 hI.1.2.2.1
    have h121 : ∀ p : Int, 0 ≤ p → p < 10 → s 121 p = -1 := by rw [hs.cell 121 (by decide)]; exact hI.2.2.2.1.2.2.2.2.2.2
    refine vm_X12_took _ _ _ _ (cG (sp_mLine hB hf hL) (fun h => ansN (fun q => h q.1)) (fun g1 => cG (sp_mPerson hB hf hn) (fun h => ansN (fun q => h q.2.1)) (fun g2 => cG sp_mDay (fun h => ansN (fun q => h q.2.2)) (fun g3 => cI (sp_playsTo (t := t) hI.1 hI.2.1 hM hf h121 g1) ?_))))
    rintro r8 s7 ⟨x1, x2, x3⟩
    refine ⟨fun e => ?_, fun e => ?_⟩
    · refine ansY ⟨g1, g2, g3⟩ ?_ x2
      rw [if_neg (fun z => by rw [if_pos z] at x1; omega)]
    · have hk : knw σ t i = true := by
        by_cases z : knw σ t i = true
        · exact z
        · rw [if_neg z] at x1; exact absurd x1 e
      obtain ⟨p1, p2⟩ := preL_ok hI.1 hI.2.1 g1 hk
      have f7 : Fr wkX wkF σ s7 := hf.tr (x2.mo (by decide) (by decide))
      refine cI (sp_actsL (d := 991) (fo := fo0) (is := preL σ t i) hI.1 hM f7 (fun p a b => ⟨by rw [x2.cell 121 (by decide)]; exact h121 p a b, by show (-1 : Int) ≤ -1; omega, by show (-1 : Int) ≤ 4; omega⟩) p1 p2 (x3 hk) g1) ?_
      rintro r10 s9 ⟨y1, y2, y3, y4, y5, y6, y7⟩
      have f9 : Fr pmX pmF s s9 := x2.tr (y3.mo (by decide) (by decide))
      rw [if_pos hk]
      refine ⟨fun e2 => ?_, fun e2 => ⟨⟨g2.1, by omega⟩, ?_⟩⟩
      · have hm : mfail σ i (mPre σ (findF σ G) t i) = true := by
          by_cases z : mfail σ i (mPre σ (findF σ G) t i) = true
          · exact z
          · unfold mPre at z; rw [if_neg z] at y1; omega
        exact ansY ⟨g1, g2, g3⟩ (by rw [if_pos hm]) f9
      · have hm : mfail σ i (mPre σ (findF σ G) t i) = false := by
          by_cases z : mfail σ i (mPre σ (findF σ G) t i) = true
          · unfold mPre at z; rw [if_pos z] at y1; exact absurd y1 e2
          · simpa using z
        obtain ⟨z1, z2, z3⟩ := y7 hm o g2.1 (by omega)
        have key := lp_mtook (Ln := Ln) (d := 998) (i := i) (o := o) (came := s9 125 o) hB (hf.tr (f9.mo (by decide) (by decide))) ⟨g1.1, by omega⟩ z1 y4 y5 y6 _ 0 (by omega) (by omega) rfl
        have e0 : s9 125 o + (if tkD (σ 8 i) = true then pof o (mtp s9 0) else 0) = s9 125 o := by
          split
          · show s9 125 o + pof o [] = _; rw [pof_nil, Int.add_zero]
          · exact Int.add_zero _
        rw [e0] at key
        refine am_EI key ?_
        rintro r s' ⟨v1, rfl⟩
        refine ansY ⟨g1, g2, g3⟩ ?_ f9
        rw [hm, if_neg (by decide), v1]
        by_cases htk : tkD (σ 8 i) = true
        · rw [if_pos htk, (z2 htk).1, Int.zero_add]; exact (z2 htk).2
        · rw [if_neg htk, Int.add_zero]; exact z3 htk
theorem pr_way (hI : INV σ n G) (i t : Int) : PR Ln 108 [vR 1, vI i, vI t] 215 [vR 82, vI i, vI t] σ := by
  have hL := hI.1.2.2.2.2.1
  refine pr_ans (c := (0 ≤ i ∧ i < σ 7 11) ∧ (0 ≤ t ∧ t ≤ 3999)) (v := if tkD (σ 8 i) = true ∧ knw σ t i = true then wayF σ (findF σ G) t fo0 i ((mPre σ (findF σ G) t i).1 (σ 9 i)) else -3) (w := -1) (cs := clX) (fs := clF) (cs' := pmX) (fs' := pmF) hI ?_ (fun s hs => ?_) (by decide) (by decide)
  · refine vm_X11_way _ _ _ (cG sp_cLine (fun h => ansN (fun q => h q.1)) (fun g1 => cG sp_cDay (fun h => ansN (fun q => h q.2)) (fun g3 => cG (sp_takes (by omega)) (fun h => ansY ⟨g1, g3⟩ (by rw [if_neg (fun z => h z.1)]) Fr.rf) (fun htk => cI (sp_playThrough (t := t) hI.1 hI.2.1 (ruX_find hI.2.2.1) Fr.rf g1) ?_))))
    rintro r8 s7 ⟨x1, x2, x3⟩
    refine ⟨fun e => ansY ⟨g1, g3⟩ (by rw [if_neg (fun z => by rw [if_pos z.2] at x1; omega)]) x2, fun e => ?_⟩
    have hk : knw σ t i = true := by
      by_cases z : knw σ t i = true
      · exact z
      · rw [if_neg z] at x1; exact absurd x1 e
    exact ansY ⟨g1, g3⟩ (by rw [if_pos ⟨htk, hk⟩]; exact (x3 hk).2.1 htk) x2
  · have hf : Fr wkX wkF σ s := hs.mo (by decide) (by decide)
    have hB := hI.1.1
    have hM := ruM_find (Ln := Ln) hI.1.1 hI.2.2.1 hI.1.2.1 hI.1.2.2.1
    have h121 : ∀ p : Int, 0 ≤ p → p < 10 → s 121 p = -1 := by rw [hs.cell 121 (by decide)]; exact hI.2.2.2.1.2.2.2.2.2.2
    refine vm_X12_way _ _ _ (cG (sp_mLine hB hf hL) (fun h => ansN (fun q => h q.1)) (fun g1 => cG sp_mDay (fun h => ansN (fun q => h q.2)) (fun g3 => cG (sp_mTakes hB hf ⟨g1.1, by omega⟩) (fun h => ansY ⟨g1, g3⟩ (by rw [if_neg (fun z => h z.1)]) Fr.rf) (fun htk => cI (sp_playsTo (t := t) hI.1 hI.2.1 hM hf h121 g1) ?_))))
    rintro r8 s7 ⟨x1, x2, x3⟩
    refine ⟨fun e => ansY ⟨g1, g3⟩ (by rw [if_neg (fun z => by rw [if_pos z.2] at x1; omega)]) x2, fun e => ?_⟩
    have hk : knw σ t i = true := by
      by_cases z : knw σ t i = true
      · exact z
      · rw [if_neg z] at x1; exact absurd x1 e
    obtain ⟨p1, p2⟩ := preL_ok hI.1 hI.2.1 g1 hk
    obtain ⟨m1, m2⟩ := mpl_okB (F := findF σ G) (t := t) (fo := fo0) hI.1 p1 (by omega)
    refine cI (sp_wayOf (d := 993) (fo := fo0) hB (hI.1.2.2.2.2.2.2 i g1.1 g1.2).1 htk (hf.tr (x2.mo (by decide) (by decide))) (x3 hk) m1 m2 hM (fun p a b => ⟨by rw [x2.cell 121 (by decide)]; exact h121 p a b, by show (-1 : Int) ≤ -1; omega, by show (-1 : Int) ≤ 4; omega⟩)) ?_
    rintro r10 s9 ⟨y1, y2, y3⟩
    exact ansY ⟨g1, g3⟩ (by rw [if_pos ⟨htk, hk⟩]; exact y1) (x2.tr (y3.mo (by decide) (by decide)))
end QU
