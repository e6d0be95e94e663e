/-! what of a debt is paid: the whole -/
section PE
variable {Ln : Int} {d : Nat} {D : Nat}
theorem lp_pays6 {a r has : Int} {s : AS} (hD : s 82 9 = D) (hD4 : D ≤ 40) (hS : ∀ j : Int, 0 ≤ j → j < D → 1 ≤ s 136 j ∧ s 136 j ≤ 1000000) (hh : 0 ≤ has ∧ has ≤ 1000000000) : ∀ (q j : Nat), j + q = D →
    am_E Ln (d + 1) 239 6 [vR 82, vI a, vI r, vI has, vI (sm (mpd s D a r) j), vI (j : Int), vU] [] s (am_rI fun v s' => v = (if sm (mpd s D a r) D ≤ has then has - sm (mpd s D a r) D else -1) ∧ ∃ f, s' = zc s 138 f ∧ ∀ x : Int, 0 ≤ x → x < D → f x = if s 134 x = a ∧ s 137 x = r then mpp s D a r has x else s 138 x) := by
  intro q
  induction q with
  | zero =>
    intro j hj
    obtain rfl : j = D := by omega
    refine vl_X12_pays_6 _ _ _ _ _ _ ⟨fun _ => ?_, fun h => absurd (by omega) h⟩
    have key := lp_pays54 (Ln := Ln) (d := d) (a := a) (r := r) hD hD4 hS hh j 0 (s 138) (by omega) (fun x x0 x1 => by rw [if_neg (by omega)])
    rw [zc_self, sm, Int.sub_zero] at key
    exact key
  | succ q ih =>
    intro j hj
    have hsm := dw_sm (A := s 134) (R := s 137) (a := a) (r := r) hS j
    have hSj := hS j (by omega) (by omega)
    have hb : 0 ≤ sm (mpd s D a r) j ∧ sm (mpd s D a r) j ≤ 1000000 * j := hsm
    have rj : 0 ≤ (j : Int) ∧ (j : Int) < 40 := by omega
    have key := ih (j + 1) (by omega)
    rw [sm] at key
    refine vl_X12_pays_6 _ _ _ _ _ _ ⟨fun h => absurd h (by omega), fun _ => cI (sp_isOf rj) ?_⟩
    rintro v s' ⟨y1, rfl⟩
    rw [w32_id (x := (j : Int) + 1) (by omega) (by omega)]
    refine ⟨fun e => ?_, fun e => ⟨rj, ?_⟩⟩
    · have e0 : mpd s' D a r j = 0 := by
        unfold mpd dw
        rw [if_neg (fun z => by rw [if_pos z.2] at y1; omega)]
      rw [e0] at key
      rw [w32_id (x := sm (mpd s' D a r) j + 0) (by omega) (by omega)]
      exact key
    · have e0 : mpd s' D a r j = s' 136 j := by
        have e00 : s' 134 j = a ∧ s' 137 j = r := by
          by_cases z : s' 134 j = a ∧ s' 137 j = r
          · exact z
          · rw [if_neg z] at y1; exact absurd y1 e
        unfold mpd dw
        rw [if_pos ⟨by omega, e00⟩]
      rw [e0] at key
      rw [w32_id (x := sm (mpd s' D a r) j + s' 136 j) (by omega) (by omega)]
      exact key
theorem sp_pays {a r has : Int} {s : AS} (hD : s 82 9 = D) (hD4 : D ≤ 40) (hS : ∀ j : Int, 0 ≤ j → j < D → 1 ≤ s 136 j ∧ s 136 j ≤ 1000000) (hh : 0 ≤ has ∧ has ≤ 1000000000) :
    am_M Ln (d + 2) 239 [vR 82, vI a, vI r, vI has] s (am_rI fun v s' => v = (if sm (mpd s D a r) D ≤ has then has - sm (mpd s D a r) D else -1) ∧ ∃ f, s' = zc s 138 f ∧ ∀ x : Int, 0 ≤ x → x < D → f x = if s 134 x = a ∧ s 137 x = r then mpp s D a r has x else s 138 x) :=
  vm_X12_pays _ _ _ _ (lp_pays6 hD hD4 hS hh D 0 (by omega))
theorem sp_pays' {s0 : AS} {i a : Int} (hD : s0 82 9 = D) (hD4 : D ≤ 40) (hS : ∀ j : Int, 0 ≤ j → j < D → 1 ≤ s0 136 j ∧ s0 136 j ≤ 1000000) (hi : 0 ≤ i ∧ i < D) (ha : s0 134 i = a) (hR : 0 ≤ s0 137 i ∧ s0 137 i < 4) {r has : Int} {f : Int → Int} (hh : 0 ≤ has ∧ has ≤ 1000000000) : am_M Ln (d + 2) 239 [vR 82, vI a, vI r, vI has] (zc s0 138 f) (am_rI fun v s' => v = (if sm (mpd s0 D a r) D ≤ has then has - sm (mpd s0 D a r) D else -1) ∧ ∃ f', s' = zc s0 138 f' ∧ f' i = if s0 137 i = r then mpp s0 D a r has i else f i) := by
  have e82 : zc s0 138 f 82 = s0 82 := zc_ne (by decide)
  have e134 : zc s0 138 f 134 = s0 134 := zc_ne (by decide)
  have e136 : zc s0 138 f 136 = s0 136 := zc_ne (by decide)
  have e137 : zc s0 138 f 137 = s0 137 := zc_ne (by decide)
  refine am_MI (sp_pays (D := D) (by rw [e82]; exact hD) hD4 (by rw [e136]; exact hS) hh) ?_
  have em : mpd (zc s0 138 f) D a r = mpd s0 D a r := by unfold mpd; rw [e134, e136, e137]
  have ep : mpp (zc s0 138 f) D a r has i = mpp s0 D a r has i := by unfold mpp; rw [em, e136]
  rw [em, e134, e137]
  rintro v s' ⟨y1, f', y2, y3⟩
  rw [zc_zc] at y2
  refine ⟨y1, f', y2, ?_⟩
  rw [y3 i hi.1 hi.2, ep, zc_eq]
  exact ifc ⟨fun z => z.2, fun z => ⟨ha, z⟩⟩
theorem lp_p111B {s0 : AS} {i a : Int} (hD : s0 82 9 = D) (hD4 : D ≤ 40) (hS : ∀ j : Int, 0 ≤ j → j < D → 1 ≤ s0 136 j ∧ s0 136 j ≤ 1000000) (hi : 0 ≤ i ∧ i < D) (ha : s0 134 i = a) (hR : 0 ≤ s0 137 i ∧ s0 137 i < 4) : ∀ (q : Nat) (r left : Int) (f : Int → Int), r + q = 4 → s0 137 i < r → left ≤ 1000000000 → am_E Ln (d + 2) 240 111 [vR 82, vI i, vI a, vI left, vI r] [] (zc s0 138 f) (am_rI fun v s' => v = f i ∧ ∃ f', s' = zc s0 138 f') := by
  have ri : 0 ≤ i ∧ i < 40 := by omega
  intro q
  induction q with
  | zero =>
    intro r left f hr hr2 hl
    refine vl_X12_paid_111 _ _ _ _ _ ⟨fun _ => ⟨ri, ?_, f, rfl⟩, fun h => absurd (by omega) h⟩
    rw [zc_eq]
  | succ q ih =>
    intro r left f hr hr2 hl
    refine vl_X12_paid_111 _ _ _ _ _ ⟨fun h => absurd h (by omega), fun _ => ⟨fun _ => ⟨ri, ?_, f, rfl⟩, fun z => cI (sp_pays' hD hD4 hS hi ha hR ⟨by omega, hl⟩) ?_⟩⟩
    · rw [zc_eq]
    · rintro v s' ⟨y1, f', rfl, y3⟩
      rw [if_neg (by omega)] at y3
      have hsm := (dw_sm (A := s0 134) (R := s0 137) (a := a) (r := r) hS D).1
      have hsm' : 0 ≤ sm (mpd s0 D a r) D := hsm
      rw [w32_id (x := r + 1) (by omega) (by omega), ← y3]
      refine ih (r + 1) v f' (by omega) (by omega) ?_
      rw [y1]
      split <;> omega
theorem lp_p111A {s0 : AS} {i a : Int} (hD : s0 82 9 = D) (hD4 : D ≤ 40) (hS : ∀ j : Int, 0 ≤ j → j < D → 1 ≤ s0 136 j ∧ s0 136 j ≤ 1000000) (hi : 0 ≤ i ∧ i < D) (ha : s0 134 i = a) (hR : 0 ≤ s0 137 i ∧ s0 137 i < 4) : ∀ (q : Nat) (r left : Int) (f : Int → Int), r + q = s0 137 i → 0 ≤ r → left ≤ 1000000000 → f i = 0 → am_E Ln (d + 2) 240 111 [vR 82, vI i, vI a, vI left, vI r] [] (zc s0 138 f) (am_rI fun v s' => v = (if left < 0 then 0 else stF (s0 134) (s0 137) (s0 136) D a i (q + 1) r left) ∧ ∃ f', s' = zc s0 138 f') := by
  have ri : 0 ≤ i ∧ i < 40 := by omega
  intro q
  induction q with
  | zero =>
    intro r left f hr h0 hl hf
    refine vl_X12_paid_111 _ _ _ _ _ ⟨fun h => absurd h (by omega), fun _ => ⟨fun z => ⟨ri, ?_, f, rfl⟩, fun z => cI (sp_pays' hD hD4 hS hi ha hR ⟨by omega, hl⟩) ?_⟩⟩
    · rw [zc_eq, if_pos z, hf]
    · rintro v s' ⟨y1, f', rfl, y3⟩
      rw [if_pos (by omega)] at y3
      have hsm' : 0 ≤ sm (mpd s0 D a r) D := (dw_sm (A := s0 134) (R := s0 137) (a := a) (r := r) hS D).1
      rw [w32_id (x := r + 1) (by omega) (by omega)]
      refine am_EI (lp_p111B hD hD4 hS hi ha hR (3 - r).toNat (r + 1) v f' (by omega) (by omega) ?_) ?_
      · rw [y1]
        split <;> omega
      · rintro v' s' ⟨u1, u2⟩
        refine ⟨?_, u2⟩
        rw [u1, y3, if_neg z, mpp]
        unfold mpd
        rw [stF, stF]
        by_cases e : sm (dw (s0 134) (s0 137) (s0 136) D a r) D ≤ left
        · rw [if_pos e, if_pos e]
        · rw [if_neg e, if_neg e, if_pos (by omega)]
  | succ q ih =>
    intro r left f hr h0 hl hf
    refine vl_X12_paid_111 _ _ _ _ _ ⟨fun h => absurd h (by omega), fun _ => ⟨fun z => ⟨ri, ?_, f, rfl⟩, fun z => cI (sp_pays' hD hD4 hS hi ha hR ⟨by omega, hl⟩) ?_⟩⟩
    · rw [zc_eq, if_pos z, hf]
    · rintro v s' ⟨y1, f', rfl, y3⟩
      rw [if_neg (by omega), hf] at y3
      have hsm' : 0 ≤ sm (mpd s0 D a r) D := (dw_sm (A := s0 134) (R := s0 137) (a := a) (r := r) hS D).1
      rw [w32_id (x := r + 1) (by omega) (by omega)]
      refine am_EI (ih (r + 1) v f' (by omega) (by omega) ?_ y3) ?_
      · rw [y1]
        split <;> omega
      · rintro v' s' ⟨u1, u2⟩
        refine ⟨?_, u2⟩
        rw [u1, if_neg z, stF.eq_2 (q := q + 1), y1]
        unfold mpd at *
        by_cases e : sm (dw (s0 134) (s0 137) (s0 136) D a r) D ≤ left
        · rw [if_pos e, if_pos e, if_neg (by omega)]
        · rw [if_neg e, if_neg e, if_pos (by omega), if_neg (by omega)]
def ownF (H : Int → Int) (m : MS) (a : Int) : Int → Int := fun p => if H p = a then pof a (m.1 p) else 0
theorem own_bd {H : Int → Int} {m : MS} {k a : Int} (hm : MI k m) : ∀ P : Nat, P ≤ 10 → 0 ≤ sm (ownF H m a) P ∧ sm (ownF H m a) P ≤ 100000000 * P := by
  intro P
  induction P with
  | zero => intro _; rw [sm]; omega
  | succ P ih =>
    intro hP
    have h1 := ih (by omega)
    have hp := hm.2.1 P (by omega) (by omega)
    have hpk := pof_nn (o := a) (fun x hx => Int.le_of_lt (hp.1 x hx).2.2)
    have hk2 := hm.1
    have hps := hp.2.2
    rw [sm, ownF]
    split <;> omega
theorem lp_ownOf {C : AS} {m : MS} {k a : Int} {P : Nat} (ha : 0 ≤ a ∧ a < 10) (hm : MI k m) (hR : RX m C) (h9 : 0 ≤ C 41 9) (hP : C 4 2 = P) (hPP : P ≤ 10) : ∀ (q j : Nat) (s : AS), j + q = P → Fr [51] [] C s →
    am_E Ln (d + 3) 45 4 [vR 40, vI a, vI (sm (ownF (C 5) m a) j), vI (j : Int)] [] s (am_rI fun v s' => v = sm (ownF (C 5) m a) P ∧ Fr [51] [] C s') := by
  intro q
  induction q with
  | zero =>
    intro j s hj hs
    obtain rfl : j = P := by omega
    refine vl_X6_ownOf_4 _ _ _ _ ⟨fun _ => ⟨rfl, hs⟩, fun h => absurd ?_ h⟩
    rw [hs.fld 4 2 (by decide), hP]; omega
  | succ q ih =>
    intro j s hj hs
    have hRs : RX m s := RX_fr hR hs (by decide) (by decide) (by decide)
    have h1 := own_bd (H := C 5) (a := a) hm j (by omega)
    have h2 := own_bd (H := C 5) (a := a) hm (j + 1) (by omega)
    have hps := (hm.2.1 j (by omega) (by omega)).2.2
    have hk2 := hm.1
    rw [sm] at h2
    refine vl_X6_ownOf_4 _ _ _ _ ?_
    rw [hs.fld 4 2 (by decide), hP, hs.cell 5 (by decide), w32_id (x := (j : Int) + 1) (by omega) (by omega)]
    refine ⟨fun h => absurd h (by omega), fun _ => ⟨⟨by omega, by omega⟩, fun e => cI (sp_held (RX_T hRs hm (by rw [hs.fld 41 9 (by decide)]; exact h9)) (by rw [hRs.2.1 j (by omega) (by omega)]; omega)) ?_, fun e => ?_⟩⟩
    · rintro v s1 ⟨y1, y2⟩
      rw [if_pos ha, hRs.2.1 j (by omega) (by omega)] at y1
      have ev : v = ownF (C 5) m a j := by rw [y1, ownF, if_pos e]
      have key := ih (j + 1) s1 (by omega) (hs.tr y2)
      rw [sm] at key
      rw [ev, w32_id (x := sm (ownF (C 5) m a) j + ownF (C 5) m a j) (by omega) (by omega)]
      exact key
    · have key := ih (j + 1) s (by omega) hs
      have ev : ownF (C 5) m a j = 0 := by rw [ownF, if_neg e]
      rw [sm, ev, Int.add_zero] at key
      exact key
theorem lp_p42 {s : AS} {m : MS} {k a i : Int} {P : Nat} {Q : Option AV → AS → Prop} (hm : MI k m) (hR : RM m s) (hP : s 82 4 = P) (hPP : P ≤ 10) (hQ : am_E Ln (d + 1) 240 85 [vR 82, vI i, vI a, vI (sm (ownF (s 84) m a) P), vI 0] [] s Q) : ∀ (q j : Nat), j + q = P →
    am_E Ln (d + 1) 240 42 [vR 82, vI i, vI a, vI (sm (ownF (s 84) m a) j), vI (j : Int)] [] s Q := by
  intro q
  induction q with
  | zero =>
    intro j hj
    obtain rfl : j = P := by omega
    exact vl_X12_paid_42 _ _ _ _ _ ⟨fun _ => hQ, fun h => absurd (by omega) h⟩
  | succ q ih =>
    intro j hj
    have h1 := own_bd (H := s 84) (a := a) hm j (by omega)
    have h2 := own_bd (H := s 84) (a := a) hm (j + 1) (by omega)
    rw [sm] at h2
    have key := ih (j + 1) (by omega)
    rw [sm] at key
    refine vl_X12_paid_42 _ _ _ _ _ ?_
    rw [hP, w32_id (x := (j : Int) + 1) (by omega) (by omega)]
    refine ⟨fun h => absurd h (by omega), fun _ => ⟨⟨by omega, by omega⟩, fun e => cI (sp_of ⟨by omega, by omega⟩ (RM_T hR hm)) ?_, fun e => ?_⟩⟩
    · rintro v s1 ⟨y1, rfl⟩
      rw [(hR.1 j (by omega) (by omega)).1] at y1
      have ev : v = ownF (s1 84) m a j := by rw [y1, ownF, if_pos e]
      rw [ev, w32_id (x := sm (ownF (s1 84) m a) j + ownF (s1 84) m a j) (by omega) (by omega)]
      exact key
    · have ev : ownF (s 84) m a j = 0 := by rw [ownF, if_neg e]
      rw [ev] at key
      rw [w32_id (x := sm (ownF (s 84) m a) j + 0) (by omega) (by omega)]
      exact key
theorem lp_p85 {s0 : AS} {a i own : Int} {Q : Option AV → AS → Prop} (hD : s0 82 9 = D) (hD4 : D ≤ 40) (hQ : ∀ f : Int → Int, (∀ x : Int, 0 ≤ x → x < D → f x = 0) → am_E Ln (d + 1) 240 111 [vR 82, vI i, vI a, vI own, vI 0] [] (zc s0 138 f) Q) : ∀ (q j : Nat) (f : Int → Int), j + q = D → (∀ x : Int, 0 ≤ x → x < j → f x = 0) →
    am_E Ln (d + 1) 240 85 [vR 82, vI i, vI a, vI own, vI (j : Int)] [] (zc s0 138 f) Q := by
  intro q
  induction q with
  | zero =>
    intro j f hj hf
    obtain rfl : j = D := by omega
    refine vl_X12_paid_85 _ _ _ _ _ ⟨fun _ => hQ f hf, fun h => absurd ?_ h⟩
    rw [zc_ne (by decide), hD]; omega
  | succ q ih =>
    intro j f hj hf
    refine vl_X12_paid_85 _ _ _ _ _ ⟨fun h => absurd h ?_, fun _ => ⟨⟨by omega, by omega⟩, ?_⟩⟩
    · rw [zc_ne (by decide), hD]; omega
    · rw [w32_id (x := (j : Int) + 1) (by omega) (by omega), up_zc, zc_eq, zc_zc]
      refine ih (j + 1) (fu f j 0) (by omega) (fun x x0 x1 => ?_)
      rw [fu_app]
      by_cases e : x = j
      · rw [if_pos e]
      · rw [if_neg e]; exact hf x x0 (by omega)
end PE
theorem pr_paid {Ln : Int} {σ : AS} {n : Nat} {G : Int → GF} (hI : INV σ n G) (i : Int) : PR Ln 118 [vR 1, vI i] 240 [vR 82, vI i] σ := by
  obtain ⟨k, hk, hm, hmn⟩ := mAll_ok0 (F := findF σ G) (dd := σ 1 10) (t := σ 1 10) hI.1
  have hn1 := hI.1.2.1
  have hn2 := hI.1.2.2.1
  have hB := hI.1.1
  have hPb := hI.2.2.2.1.2.1
  have e2 : σ 82 2 = σ 1 10 := hB.2.2.2.1
  have e9 : σ 82 9 = σ 76 3 := hB.2.2.2.2.2.2.2.2.2.2.1
  have e84 : σ 84 = σ 5 := hB.1.1
  obtain ⟨d1, ⟨d2, d3, d4⟩, d5⟩ := id hI.2.2.2.2.2.2.2.1
  obtain ⟨P, hPn⟩ : ∃ P : Nat, σ 4 2 = P := ⟨(σ 4 2).toNat, by omega⟩
  obtain ⟨D, hDn⟩ : ∃ D : Nat, σ 76 3 = D := ⟨(σ 76 3).toNat, by omega⟩
  have hS : ∀ j : Int, 0 ≤ j → j < D → 1 ≤ σ 78 j ∧ σ 78 j ≤ 1000000 := fun j a b => (d5 j a (by omega)).2.1
  have hob := own_bd (H := σ 5) (a := σ 77 i) hm P (by omega)
  refine pr_ans (c := 0 ≤ i ∧ i < σ 76 3) (v := stF (σ 77) (σ 79) (σ 78) D (σ 77 i) i ((σ 79 i).toNat + 1) 0 (sm (ownF (σ 5) (mAll σ (findF σ G) (σ 1 10) (σ 1 10)) (σ 77 i)) P)) (w := -1) (cs := 80 :: 81 :: clX) (fs := clF) (cs' := 138 :: pmX) (fs' := pmF) hI ?_ (fun s hs => ?_) (by decide) (by decide)
  · refine vm_X11_paid _ _ ⟨fun h => ansN (by omega), fun h0 => ⟨fun h1 => cV (c_playAll hI) ?_, fun h => ansN (by omega)⟩⟩
    rintro s1 ⟨x1, x2, x3, -⟩
    have hi5 := d5 i (by omega) h1
    have g77 : s1 77 = σ 77 := x2.cell 77 (by decide)
    have g78 : s1 78 = σ 78 := x2.cell 78 (by decide)
    have g79 : s1 79 = σ 79 := x2.cell 79 (by decide)
    have g5 : s1 5 = σ 5 := x2.cell 5 (by decide)
    rw [g77]
    refine ⟨⟨by omega, by omega⟩, cI (P := fun v s' => v = sm (ownF (σ 5) (mAll σ (findF σ G) (σ 1 10) (σ 1 10)) (σ 77 i)) P ∧ Fr [51] [] s1 s') (vm_X6_ownOf _ _ ?_) ?_⟩
    · have key := lp_ownOf (Ln := Ln) (d := 995) (C := s1) (a := σ 77 i) (P := P) (by omega) hm x1 x3 (by rw [x2.fld 4 2 (by decide)]; exact hPn) (by omega) P 0 s1 (by omega) Fr.rf
      rw [g5] at key
      exact key
    · rintro v s2 ⟨y1, y2⟩
      have hs2 : Fr clX clF σ s2 := x2.tr (y2.mo (by decide) (by decide))
      refine cI (P := fun v s' => v = stF (σ 77) (σ 79) (σ 78) D (σ 77 i) i ((σ 79 i).toNat + 1) 0 (sm (ownF (σ 5) (mAll σ (findF σ G) (σ 1 10) (σ 1 10)) (σ 77 i)) P) ∧ Fr [80, 81] [] s2 s') (vm_X1_settle _ _ _ ?_) ?_
      · have q77 : s2 77 = σ 77 := hs2.cell 77 (by decide)
        have q78 : s2 78 = σ 78 := hs2.cell 78 (by decide)
        have q79 : s2 79 = σ 79 := hs2.cell 79 (by decide)
        have key := lp_settle (Ln := Ln) (d := 996) (D := D) (i := i) (a := σ 77 i) (C := s2) (by rw [hs2.fld 76 3 (by decide)]; exact hDn) (by omega) (by rw [q78]; exact hS) (by omega) (by rw [q77]) (by rw [q79]; exact hi5.2.2) ((σ 79 i).toNat + 1) 0 v s2 (by rw [q79]; omega) (by omega) (by omega) Fr.rf
        rw [q77, q78, q79, y1] at key
        rw [y1]
        exact key
      · rintro r s4 ⟨z1, z2⟩
        exact ansY ⟨by omega, h1⟩ z1 ((hs2.mo (by decide) (by decide)).tr (z2.mo (by decide) (by decide)))
  · have e9s : s 82 9 = σ 76 3 := by rw [hs.fld 82 9 (by decide), e9]
    refine vm_X12_paid _ _ ?_
    rw [e9s, w32_id (x := σ 76 3 - 1) (by omega) (by omega)]
    refine cG sp_mlies (fun h => ansN (by omega)) (fun h => ⟨⟨by omega, by omega⟩, ?_⟩)
    rw [hs.fld 82 2 (by decide), e2]
    refine cV (m_plays hI (cs := 80 :: 81 :: clX) (fs := clF) hs (by decide) (by decide) (hs.cell 121 (by decide))) ?_
    rintro s3 ⟨x1, x2⟩
    have hi5 := d5 i (by omega) (by omega)
    have g2 : Fr wkX wkF σ s3 := (hs.mo (by decide) (by decide)).tr (x2.mo (by decide) (by decide))
    have q134 : s3 134 = σ 77 := (g2.cell 134 (by decide)).trans d2
    have q136 : s3 136 = σ 78 := (g2.cell 136 (by decide)).trans d3
    have q137 : s3 137 = σ 79 := (g2.cell 137 (by decide)).trans d4
    have q84 : s3 84 = σ 5 := (g2.cell 84 (by decide)).trans e84
    have q9 : s3 82 9 = D := by rw [g2.fld 82 9 (by decide), e9]; exact hDn
    rw [show s 134 = s3 134 by rw [x2.cell 134 (by decide)], q134]
    have k111 : ∀ f : Int → Int, (∀ x : Int, 0 ≤ x → x < D → f x = 0) → am_E Ln 999 240 111 [vR 82, vI i, vI (σ 77 i), vI (sm (ownF (σ 5) (mAll σ (findF σ G) (σ 1 10) (σ 1 10)) (σ 77 i)) P), vI 0] [] (zc s3 138 f) (am_rI (ansF (138 :: pmX) pmF s (0 ≤ i ∧ i < σ 76 3) (stF (σ 77) (σ 79) (σ 78) D (σ 77 i) i ((σ 79 i).toNat + 1) 0 (sm (ownF (σ 5) (mAll σ (findF σ G) (σ 1 10) (σ 1 10)) (σ 77 i)) P)) (-1))) := by
      intro f hf
      have key := lp_p111A (Ln := Ln) (d := 997) (D := D) (s0 := s3) (i := i) (a := σ 77 i) q9 (by omega) (by rw [q136]; exact hS) (by omega) (by rw [q134]) (by rw [q137]; exact hi5.2.2) (σ 79 i).toNat 0 (sm (ownF (σ 5) (mAll σ (findF σ G) (σ 1 10) (σ 1 10)) (σ 77 i)) P) f (by rw [q137]; omega) (by omega) (by omega) (hf i (by omega) (by omega))
      rw [q134, q136, q137, if_neg (by omega)] at key
      refine am_EI key ?_
      rintro v s' ⟨u1, f', u2⟩
      refine ansY (by omega) u1 ?_
      rw [u2]
      exact (x2.mo (by decide) (by decide)).cl (by decide)
    have k85 := lp_p85 (s0 := s3) (d := 998) q9 (by omega) k111 D 0 (s3 138) (by omega) (fun x x0 x1 => absurd x1 (by omega))
    rw [zc_self] at k85
    have key := lp_p42 (s := s3) (d := 998) (i := i) (P := P) (a := σ 77 i) hm x1 (by rw [g2.fld 82 4 (by decide)]; exact (hB.2.2.2.2.2.1).trans hPn) (by omega) (by rw [q84]; exact k85) P 0 (by omega)
    rw [q84] at key
    exact key
