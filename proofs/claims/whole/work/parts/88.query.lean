/-! questions: left, share, lost, part, took, way, fails -/
theorem lst_len {C : AS} {dd t k : Int} (hk : k ≤ 100) : (lst C dd t k).length ≤ 100 := by
  unfold lst
  refine Nat.le_trans (List.length_filter_le _ _) ?_
  rw [rl_len]
  omega
theorem mAll_ok {C : AS} {F : FD} {n : Nat} {dd t : Int} {fo : Int → Int} (hO : OKB C n) : ∃ k : Int, (0 ≤ k ∧ k ≤ 100) ∧ MI k (mpl C F t fo (lst C dd t (C 7 11)) m0) ∧ MN n (mpl C F t fo (lst C dd t (C 7 11)) m0) := by
  have hl := lst_len (C := C) (dd := dd) (t := t) (k := C 7 11) hO.2.2.2.2.1.2
  have := mpl_okB (F := F) (t := t) (fo := fo) hO (lst_rng (dd := dd) (t := t) hO) hl
  exact ⟨_, by omega, this⟩
theorem mAll_ok0 {C : AS} {F : FD} {n : Nat} {dd t : Int} (hO : OKB C n) : ∃ k : Int, (0 ≤ k ∧ k ≤ 100) ∧ MI k (mAll C F dd t) ∧ MN n (mAll C F dd t) := mAll_ok hO
theorem INV_n {σ : AS} {n : Nat} {G : Int → GF} (hI : INV σ n G) : 0 ≤ σ 1 11 ∧ σ 1 11 ≤ 100 := by
  have h1 := hI.1.2.1
  have h2 := hI.1.2.2.1
  omega
section QU
variable {Ln : Int} {σ : AS} {n : Nat} {G : Int → GF}
theorem c_playAll (hI : INV σ n G) {dd t : Int} {d : Nat} : am_M Ln (d + 7) 32 [vR 40, vI dd, vI t] σ (am_rV fun s => RX (mAll σ (findF σ G) dd t) s ∧ Fr clX clF σ s ∧ 0 ≤ s 41 9 ∧ s 40 14 = mfl σ (findF σ G) t fo0 (lst σ dd t (σ 7 11)) m0) :=
  sp_playAll (ruX_find hI.2.2.1) hI.1.2.2.2.1 Fr.rf hI.1.2.2.2.2.1 (OKB_lv hI.1)
theorem m_plays (hI : INV σ n G) {dd t : Int} {d : Nat} {s : AS} {cs : List Nat} {fs : List (Nat × Int)} (hs : Fr cs fs σ s) (h1 : ∀ c ∈ cs, c ∈ wkX) (h2 : ∀ q ∈ fs, q.1 ∈ wkX ∨ q ∈ wkF) (h3 : s 121 = σ 121) : am_M Ln (d + 9) 206 [vR 82, vI dd, vI t] s (am_rV fun s' => RM (mAll σ (findF σ G) dd t) s' ∧ Fr pmX pmF s s') :=
  sp_mplays hI.1 (ruM_find hI.1.1 hI.2.2.1 hI.1.2.1 hI.1.2.2.1) (hs.mo h1 h2) (fun p a b => ⟨by rw [h3]; exact hI.2.2.2.1.2.2.2.2.2.2 p a b, by show (-1 : Int) ≤ -1; omega, by show (-1 : Int) ≤ 4; omega⟩)
theorem pr_left (hI : INV σ n G) (p o dd t : Int) : PR Ln 103 [vR 1, vI p, vI o, vI dd, vI t] 208 [vR 82, vI p, vI o, vI dd, vI t] σ := by
  obtain ⟨k, hk, hm, hmn⟩ := mAll_ok0 (F := findF σ G) (dd := dd) (t := t) hI.1
  have hn := INV_n hI
  have h10 : σ 1 11 ≤ 10 := by have := hI.1.2.1; have := hI.1.2.2.1; omega
  have hP := hI.2.2.2.1.2.1
  refine pr_ans (c := (0 ≤ p ∧ p < σ 4 2) ∧ (o = -1 ∨ (0 ≤ o ∧ o < σ 1 11)) ∧ (0 ≤ dd ∧ dd ≤ 3999) ∧ (0 ≤ t ∧ t ≤ 3999)) (v := if o = -1 then psum ((mAll σ (findF σ G) dd t).1 p) else pof o ((mAll σ (findF σ G) dd t).1 p)) (w := -1) (cs := clX) (fs := clF) (cs' := pmX) (fs' := pmF) hI ?_ (fun s hs => ?_) (by decide) (by decide)
  · refine vm_X11_left _ _ _ _ _ (cG sp_cPurse (fun h => ansN (fun q => h q.1)) (fun g1 => cG sp_cPersonOrAll (fun h => ansN (fun q => h q.2.1)) (fun g2 => cG sp_cDay (fun h => ansN (fun q => h q.2.2.1)) (fun g3 => cG sp_cDay (fun h => ansN (fun q => h q.2.2.2)) (fun g4 => cV (c_playAll hI) ?_)))))
    rintro s9 ⟨x1, x2, x3, -⟩
    have hps := hm.2.1 p g1.1 (by omega)
    refine cI (sp_held (RX_T x1 hm x3) (by rw [x1.2.1 p g1.1 (by omega)]; omega)) ?_
    rintro r s10 ⟨y1, y2⟩
    refine ansY ⟨g1, g2, g3, g4⟩ ?_ (x2.tr (y2.mo (by decide) (by decide)))
    rw [y1, x1.2.1 p g1.1 (by omega)]
    rcases g2 with e | e
    · rw [e, if_pos rfl, if_neg (by omega)]
    · rw [if_pos (by omega), if_neg (by omega)]
  · have hf : Fr wkX wkF σ s := hs.mo (by decide) (by decide)
    have hB := hI.1.1
    have mid : ∀ (K : AS → Prop), ((0 ≤ p ∧ p < σ 4 2) → K s) → (¬ (0 ≤ p ∧ p < σ 4 2) → ansF pmX pmF s ((0 ≤ p ∧ p < σ 4 2) ∧ (o = -1 ∨ (0 ≤ o ∧ o < σ 1 11)) ∧ (0 ≤ dd ∧ dd ≤ 3999) ∧ (0 ≤ t ∧ t ≤ 3999)) (if o = -1 then psum ((mAll σ (findF σ G) dd t).1 p) else pof o ((mAll σ (findF σ G) dd t).1 p)) (-1) (-1) s) := fun _ _ h => ansN (fun q => h q.1)
    refine vm_X12_left _ _ _ _ _ (cG (sp_mPurse hB hf (by omega)) (fun h => ansN (fun q => h q.1)) (fun g1 => ⟨fun e => cG sp_mAsked (fun h => ansN (fun q => h q.2.2)) (fun g3 => cV (m_plays hI hs (by decide) (by decide) (hs.cell 121 (by decide))) ?_), fun e => cG (sp_mPerson hB hf hn) (fun h => ansN (fun q => q.2.1.elim e h)) (fun g2 => cG sp_mAsked (fun h => ansN (fun q => h q.2.2)) (fun g3 => cV (m_plays hI hs (by decide) (by decide) (hs.cell 121 (by decide))) ?_))⟩))
    · rintro s5 ⟨x1, x2⟩
      refine ⟨fun _ => cI (sp_allOf ⟨g1.1, by omega⟩ (RM_T x1 hm)) ?_, fun q => absurd e q⟩
      rintro r s6 ⟨y1, rfl⟩
      refine ansY ⟨g1, Or.inl e, g3.1, g3.2⟩ ?_ x2
      rw [if_pos e, y1, (x1.1 p g1.1 (by omega)).1]
    · rintro s5 ⟨x1, x2⟩
      refine ⟨fun q => absurd q e, fun _ => cI (sp_of ⟨g1.1, by omega⟩ (RM_T x1 hm)) ?_⟩
      rintro r s6 ⟨y1, rfl⟩
      refine ansY ⟨g1, Or.inr g2, g3.1, g3.2⟩ ?_ x2
      rw [if_neg e, y1, (x1.1 p g1.1 (by omega)).1]
theorem lp_mshare {d : Nat} {s : AS} {kk o : Int} {w : Int → Int} (h3 : s 82 3 = n) (hn2 : n ≤ 10) (hk : 0 ≤ kk ∧ kk < 10) (hw : ∀ x : Int, 0 ≤ x → x < n → s 116 (10 * kk + x) = w x ∧ 0 ≤ w x ∧ w x ≤ 100000000) : ∀ (q j : Nat), j + q = n →
    am_E Ln d 209 46 [vR 82, vI kk, vI o, vU, vU, vI (sm (fun x => if o = -1 ∨ o = x then w x else 0) j), vI (j : Int)] [] s (am_rI fun r s' => r = sm (fun x => if o = -1 ∨ o = x then w x else 0) n ∧ s' = s) := by
  have smb : ∀ j : Nat, j ≤ n → 0 ≤ sm (fun x => if o = -1 ∨ o = x then w x else 0) j ∧ sm (fun x => if o = -1 ∨ o = x then w x else 0) j ≤ 100000000 * j := by
    intro j hj
    induction j with
    | zero => exact ⟨Int.le_refl 0, by rw [sm]; omega⟩
    | succ j ih =>
      have h1 := ih (by omega)
      have h2 := hw j (by omega) (by omega)
      rw [sm]
      split <;> omega
  intro q
  induction q with
  | zero =>
    intro j hj
    obtain rfl : j = n := by omega
    exact vl_X12_share_46 _ _ _ _ _ ⟨fun _ => ⟨rfl, rfl⟩, fun h => absurd (by omega) h⟩
  | succ q ih =>
    intro j hj
    have h1 := smb j (by omega)
    have h2 := hw j (by omega) (by omega)
    have key := ih (j + 1) (by omega)
    rw [sm, show ((j + 1 : Nat) : Int) = (j : Int) + 1 by omega] at key
    refine vl_X12_share_46 _ _ _ _ _ ⟨fun h => absurd h (by omega), fun _ => ?_⟩
    rw [w32_id (x := 10 * kk) (by omega) (by omega), w32_id (x := 10 * kk + (j : Int)) (by omega) (by omega), h2.1, w32_id (x := sm (fun x => if o = -1 ∨ o = x then w x else 0) j + w j) (by omega) (by omega), w32_id (x := sm (fun x => if o = -1 ∨ o = x then w x else 0) j + 0) (by omega) (by omega), w32_id (x := (j : Int) + 1) (by omega) (by omega)]
    refine ⟨fun e => ⟨⟨by omega, by omega⟩, ?_⟩, fun e => ⟨fun e2 => ⟨⟨by omega, by omega⟩, ?_⟩, fun e2 => ?_⟩⟩
    · rw [if_pos (Or.inl e)] at key; exact key
    · rw [if_pos (Or.inr e2)] at key; exact key
    · rw [if_neg (fun z => z.elim e e2)] at key; exact key
theorem pr_share (hI : INV σ n G) (kk o dd t : Int) : PR Ln 104 [vR 1, vI kk, vI o, vI dd, vI t] 209 [vR 82, vI kk, vI o, vI dd, vI t] σ := by
  obtain ⟨k, hk, hm, hmn⟩ := mAll_ok0 (F := findF σ G) (dd := dd) (t := t) hI.1
  have hn := INV_n hI
  have hn1 := hI.1.2.1
  have hn2 := hI.1.2.2.1
  have hP := hI.2.2.2.1.2.2.1
  obtain ⟨w, hw⟩ : ∃ w : Int → Int, w = fun x => (mAll σ (findF σ G) dd t).2.1 (10 * kk + x) := ⟨_, rfl⟩
  refine pr_ans (c := (0 ≤ kk ∧ kk < σ 1 12) ∧ (o = -1 ∨ (0 ≤ o ∧ o < σ 1 11)) ∧ (0 ≤ dd ∧ dd ≤ 3999) ∧ (0 ≤ t ∧ t ≤ 3999)) (v := sm (fun x => if o = -1 ∨ o = x then w x else 0) n) (w := -1) (cs := clX) (fs := clF) (cs' := pmX) (fs' := pmF) hI ?_ (fun s hs => ?_) (by decide) (by decide)
  · refine vm_X11_share _ _ _ _ _ (cG sp_cThing (fun h => ansN (fun q => h q.1)) (fun g1 => cG sp_cPersonOrAll (fun h => ansN (fun q => h q.2.1)) (fun g2 => cG sp_cDay (fun h => ansN (fun q => h q.2.2.1)) (fun g3 => cG sp_cDay (fun h => ansN (fun q => h q.2.2.2)) (fun g4 => cV (c_playAll hI) ?_)))))
    rintro s9 ⟨x1, x2, x3, -⟩
    refine cI (sp_shareOf ⟨g1.1, by omega⟩ (by omega) (fun c a b => by rw [x1.2.2.1 c a b]; have := (hm.2.2.2 c a b).1; omega)) ?_
    rintro r s10 ⟨y1, rfl⟩
    refine ansY ⟨g1, g2, g3, g4⟩ ?_ x2
    rw [y1]
    have e1 : sm (fun x => if o = -1 ∨ o = x then s10 46 (10 * kk + x) else 0) 10 = sm (fun x => if o = -1 ∨ o = x then w x else 0) 10 := sm_congr (fun x a b => by
      rw [x1.2.2.1 (10 * kk + x) (by omega) (by omega), hw])
    rw [e1]
    refine sm_short hn2 (fun x a b => ?_)
    split
    · rw [hw]; exact hmn.2 kk x g1.1 (by omega) a (by omega)
    · rfl
  · have hf : Fr wkX wkF σ s := hs.mo (by decide) (by decide)
    have hB := hI.1.1
    have fin : ∀ s5 : AS, (0 ≤ kk ∧ kk < σ 1 12) → RM (mAll σ (findF σ G) dd t) s5 → Fr pmX pmF s s5 → am_E Ln 999 209 46 [vR 82, vI kk, vI o, vU, vU, vI 0, vI 0] [] s5 (am_rI fun r s' => r = sm (fun x => if o = -1 ∨ o = x then w x else 0) n ∧ s' = s5) := by
      intro s5 g1 x1 x2
      have e3 : s5 82 3 = n := by rw [x2.fld 82 3 (by decide), hf.fld 82 3 (by decide), ← hn1]; exact hB.2.2.2.2.1
      exact lp_mshare (kk := kk) (o := o) (w := w) e3 hn2 ⟨g1.1, by omega⟩ (fun x a b => by
        have h := (hm.2.2.2 (10 * kk + x) (by omega) (by omega)).1
        rw [x1.2.1 (10 * kk + x) (by omega) (by omega), hw]
        exact ⟨rfl, h.1, by have := h.2; show (mAll σ (findF σ G) dd t).2.1 (10 * kk + x) ≤ 100000000; omega⟩) n 0 (by omega)
    refine vm_X12_share _ _ _ _ _ (cG (sp_mThing hB hf (by omega)) (fun h => ansN (fun q => h q.1)) (fun g1 => ⟨fun e => cG sp_mAsked (fun h => ansN (fun q => h q.2.2)) (fun g3 => cV (m_plays hI hs (by decide) (by decide) (hs.cell 121 (by decide))) ?_), fun e => cG (sp_mPerson hB hf hn) (fun h => ansN (fun q => q.2.1.elim e h)) (fun g2 => cG sp_mAsked (fun h => ansN (fun q => h q.2.2)) (fun g3 => cV (m_plays hI hs (by decide) (by decide) (hs.cell 121 (by decide))) ?_))⟩))
    · rintro s5 ⟨x1, x2⟩
      refine am_EI (fin s5 g1 x1 x2) ?_
      rintro r s6 ⟨y1, rfl⟩
      exact ansY ⟨g1, Or.inl e, g3.1, g3.2⟩ y1 x2
    · rintro s5 ⟨x1, x2⟩
      refine am_EI (fin s5 g1 x1 x2) ?_
      rintro r s6 ⟨y1, rfl⟩
      exact ansY ⟨g1, Or.inr g2, g3.1, g3.2⟩ y1 x2
theorem pr_lost (hI : INV σ n G) (p o dd t : Int) : PR Ln 105 [vR 1, vI p, vI o, vI dd, vI t] 210 [vR 82, vI p, vI o, vI dd, vI t] σ := by
  have hn := INV_n hI
  have hn1 := hI.1.2.1
  have hn2 := hI.1.2.2.1
  have hP := hI.2.2.2.1.2.1
  refine pr_ans (c := (0 ≤ p ∧ p < σ 4 2) ∧ (0 ≤ o ∧ o < σ 1 11) ∧ (0 ≤ dd ∧ dd ≤ 3999) ∧ (0 ≤ t ∧ t ≤ 3999)) (v := (mAll σ (findF σ G) dd t).2.2 (10 * p + o)) (w := -1) (cs := clX) (fs := clF) (cs' := pmX) (fs' := pmF) hI ?_ (fun s hs => ?_) (by decide) (by decide)
  · refine vm_X11_lost _ _ _ _ _ (cG sp_cPurse (fun h => ansN (fun q => h q.1)) (fun g1 => cG sp_cPerson (fun h => ansN (fun q => h q.2.1)) (fun g2 => cG sp_cDay (fun h => ansN (fun q => h q.2.2.1)) (fun g3 => cG sp_cDay (fun h => ansN (fun q => h q.2.2.2)) (fun g4 => cV (c_playAll hI) ?_)))))
    rintro s9 ⟨x1, x2, x3, -⟩
    rw [w32_id (x := p * 10) (by omega) (by omega), w32_id (x := p * 10 + o) (by omega) (by omega), show p * 10 + o = 10 * p + o by omega]
    exact ⟨⟨by omega, by omega⟩, ansY ⟨g1, g2, g3, g4⟩ (x1.2.2.2 (10 * p + o) (by omega) (by omega)) x2⟩
  · have hf : Fr wkX wkF σ s := hs.mo (by decide) (by decide)
    have hB := hI.1.1
    refine vm_X12_lost _ _ _ _ _ (cG (sp_mPurse hB hf (by omega)) (fun h => ansN (fun q => h q.1)) (fun g1 => cG (sp_mPerson hB hf hn) (fun h => ansN (fun q => h q.2.1)) (fun g2 => cG sp_mAsked (fun h => ansN (fun q => h q.2.2)) (fun g3 => cV (m_plays hI hs (by decide) (by decide) (hs.cell 121 (by decide))) ?_))))
    rintro s5 ⟨x1, x2⟩
    rw [w32_id (x := 10 * p) (by omega) (by omega), w32_id (x := 10 * p + o) (by omega) (by omega)]
    exact ⟨⟨by omega, by omega⟩, ansY ⟨g1, g2, g3.1, g3.2⟩ (x1.2.2 (10 * p + o) (by omega) (by omega)) x2⟩
theorem pr_fails (hI : INV σ n G) (t : Int) : PR Ln 109 [vR 1, vI t] 216 [vR 82, vI t] σ := by
  refine pr_ans (c := 0 ≤ t ∧ t ≤ 3999) (v := mfl σ (findF σ G) t fo0 (lst σ 3999 t (σ 7 11)) m0) (w := -1) (cs := clX) (fs := clF) (cs' := pmX) (fs' := pmF) hI ?_ (fun s hs => ?_) (by decide) (by decide)
  · refine vm_X11_fails _ _ (cG sp_cDay (fun h => ansN h) (fun g1 => cV (c_playAll hI) ?_))
    rintro s9 ⟨x1, x2, x3, x4⟩
    exact ansY g1 x4 x2
  · have hf : Fr wkX wkF σ s := hs.mo (by decide) (by decide)
    refine vm_X12_fails _ _ (cG sp_mDay (fun h => ansN h) (fun g1 => cV (sp_mlists (dd := 4000) (t := t) hI.1 hf) ?_))
    rintro s1 ⟨a1, a2, a3⟩
    rw [lst_day hI.1 hI.2.1] at a3
    refine cV (sp_empties s1) ?_
    rintro s2 ⟨b1, b2⟩
    have e63 : s2 82 63 = s1 82 63 := b1.fld 82 63 (by decide)
    have e126 : s2 126 = s1 126 := b1.cell 126 (by decide)
    have f2 : Fr pmX pmF s s2 := (a1.mo (by decide) (by decide)).tr (b1.mo (by decide) (by decide))
    have key := lp_mfails (Ln := Ln) (d := 991) hI.1 (ruM_find hI.1.1 hI.2.2.1 hI.1.2.1 hI.1.2.2.1) (hf.tr (f2.mo (by decide) (by decide))) (by rw [f2.cell 121 (by decide), hs.cell 121 (by decide)]; exact hI.2.2.2.1.2.2.2.2.2.2) (by rw [e63]; exact a2) (by rw [e63, e126]; exact a3) _ 0 s2 (by omega) (by omega) rfl b2 Fr.rf rfl rfl
    refine am_EI key ?_
    rintro r s3 ⟨y1, y2⟩
    exact ansY g1 y1 (f2.tr y2)
end QU
