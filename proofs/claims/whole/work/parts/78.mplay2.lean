/-! the model plays -/
def pmX : List Nat := [113, 114, 115, 116, 117, 118, 119, 120, 122, 123, 124, 125, 126]
def pmF : List (Nat × Int) := [(82, 54), (82, 63)]
theorem lst_day {C : AS} {n : Nat} {t : Int} (hO : OKB C n) (hD : OKD C) : lst C 4000 t (C 7 11) = lst C 3999 t (C 7 11) := by
  unfold lst
  refine List.filter_congr fun x hx => ?_
  have hx' := (hO.2.2.2.2.2.1.2 x).mp hx
  have := hD x hx'.1 hx'.2
  rw [decide_eq_true (by omega : C 13 x ≤ 4000), decide_eq_true (by omega : C 13 x ≤ 3999)]
theorem mpl_okB {C : AS} {F : FD} {t : Int} {fo : Int → Int} {n : Nat} {is : List Int} (hO : OKB C n) (his : ∀ x ∈ is, 0 ≤ x ∧ x < C 7 11) (hlen : is.length ≤ 100) : MI is.length (mpl C F t fo is m0) ∧ MN n (mpl C F t fo is m0) := by
  have := mpl_ok (C := C) (F := F) (t := t) (fo := fo) (n := n) (is := is) (k := 0) m0_MI m0_MN (by omega) (fun x hx => hO.2.2.2.2.2.2 x (his x hx).1 (his x hx).2)
  rwa [Int.zero_add] at this
theorem sp_actsL {Ln : Int} {d : Nat} {C σ : AS} {F : FD} {t i : Int} {n : Nat} {fo : Int → Int} {is : List Int} (hO : OKB C n) (hF : ruM Ln n C F) (hf : Fr wkX wkF C σ) (hfo : ∀ p : Int, 0 ≤ p → p < 10 → σ 121 p = fo p ∧ -1 ≤ fo p ∧ fo p ≤ 4) (his : ∀ x ∈ is, 0 ≤ x ∧ x < C 7 11) (hlen : is.length < 100) (hr : RM (mpl C F t fo is m0) σ) (hi : 0 ≤ i ∧ i < C 7 11) :
    am_M Ln (d + 8) 202 [vR 82, vI i, vI t] σ (am_rI (xacts C F t fo i (mpl C F t fo is m0) σ)) := by
  obtain ⟨hB, o1, o2, hkn, hn, hS, o6⟩ := hO
  obtain ⟨h1, h2⟩ := mpl_okB (F := F) (t := t) (fo := fo) (is := is) ⟨hB, o1, o2, hkn, hn, hS, o6⟩ his (by omega)
  obtain ⟨l1, l2⟩ := o6 i hi.1 hi.2
  exact sp_acts hB l1 l2 hf o1 o2 hr h1 (by omega) h2 hF hkn hfo
theorem lst_rng {C : AS} {dd t : Int} {n : Nat} (hO : OKB C n) : ∀ x ∈ lst C dd t (C 7 11), 0 ≤ x ∧ x < C 7 11 := fun x hx => ((lst_in hO.2.2.2.2.2.1).mp hx).1
theorem rl_pre {α : Type} {f : Int → α} {j R : Int} (h0 : 0 ≤ j) (h : j ≤ R) : ∀ x ∈ rl j f, x ∈ rl R f := fun x hx => by
  obtain ⟨u, a, b, c⟩ := rl_mem.mp hx
  exact rl_mem.mpr ⟨u, a, by omega, c⟩
theorem lp_mplays {Ln : Int} {d : Nat} {C σ0 : AS} {F : FD} {dd t : Int} {n : Nat} {fo : Int → Int} (hO : OKB C n) (hF : ruM Ln n C F) (hf : Fr wkX wkF C σ0) (hfo : ∀ p : Int, 0 ≤ p → p < 10 → σ0 121 p = fo p ∧ -1 ≤ fo p ∧ fo p ≤ 4) (hR : 0 ≤ σ0 82 63 ∧ σ0 82 63 ≤ 100) (hls : rl (σ0 82 63) (σ0 126) = lst C dd t (C 7 11)) :
    ∀ (q : Nat) (j : Int) (σ : AS), 0 ≤ j → j ≤ σ0 82 63 → (σ0 82 63 - j).toNat = q → RM (mpl C F t fo (rl j (σ0 126)) m0) σ → Fr pmX pmF σ0 σ → σ 126 = σ0 126 → σ 82 63 = σ0 82 63 →
    am_E Ln (d + 8) 206 12 [vR 82, vU, vI t, vI j, vU] [] σ (am_rV fun σ' => RM (mpl C F t fo (lst C dd t (C 7 11)) m0) σ' ∧ Fr pmX pmF σ0 σ') := by
  intro q
  induction q with
  | zero =>
    intro j σ h0 h1 hq hr hfr e126 e63
    obtain rfl : j = σ0 82 63 := by omega
    rw [hls] at hr
    exact vl_X12_plays_12 _ _ _ ⟨fun _ => ⟨hr, hfr⟩, fun h => absurd (by omega) h⟩
  | succ q ih =>
    intro j σ h0 h1 hq hr hfr e126 e63
    have fC : Fr wkX wkF C σ := hf.tr (hfr.mo (by decide) (by decide))
    have hin := lst_rng (dd := dd) (t := t) hO
    rw [← hls] at hin
    have hi := hin (σ0 126 j) (rl_mem.mpr ⟨j, h0, by omega, rfl⟩)
    refine vl_X12_plays_12 _ _ _ ⟨fun h => absurd h (by omega), fun _ => ⟨⟨h0, by omega⟩, ?_⟩⟩
    rw [e126]
    refine cI (sp_actsL (d := d) hO hF fC (by rw [hfr.cell 121 (by decide)]; exact hfo) (fun x hx => hin x (rl_pre h0 h1 x hx)) (by rw [rl_len]; omega) hr hi) ?_
    rintro r s1 ⟨-, x2, x3, -⟩
    rw [w32_id (by omega) (by omega)]
    refine ih (j + 1) s1 (by omega) (by omega) (by omega) ?_ (hfr.tr (x3.mo (by decide) (by decide))) (by rw [x3.cell 126 (by decide)]; exact e126) (by rw [x3.fld 82 63 (by decide)]; exact e63)
    rw [rl_succ _ h0, mpl_app]
    exact x2
theorem sp_mplays {Ln : Int} {d : Nat} {C σ : AS} {F : FD} {dd t : Int} {n : Nat} {fo : Int → Int} (hO : OKB C n) (hF : ruM Ln n C F) (hf : Fr wkX wkF C σ) (hfo : ∀ p : Int, 0 ≤ p → p < 10 → σ 121 p = fo p ∧ -1 ≤ fo p ∧ fo p ≤ 4) :
    am_M Ln (d + 9) 206 [vR 82, vI dd, vI t] σ (am_rV fun σ' => RM (mpl C F t fo (lst C dd t (C 7 11)) m0) σ' ∧ Fr pmX pmF σ σ') := by
  refine vm_X12_plays _ _ _ (cV (sp_mlists (dd := dd) (t := t) hO hf) ?_)
  rintro s1 ⟨a1, a2, a3⟩
  refine cV (sp_empties s1) ?_
  rintro s2 ⟨b1, b2⟩
  have e63 : s2 82 63 = s1 82 63 := b1.fld 82 63 (by decide)
  have e126 : s2 126 = s1 126 := b1.cell 126 (by decide)
  have f2 : Fr pmX pmF σ s2 := (a1.mo (by decide) (by decide)).tr (b1.mo (by decide) (by decide))
  refine am_EV (lp_mplays (d := d) (dd := dd) (fo := fo) hO hF (hf.tr (f2.mo (by decide) (by decide))) (by rw [f2.cell 121 (by decide)]; exact hfo) (by rw [e63]; exact a2) (by rw [e63, e126]; exact a3) _ 0 s2 (by omega) (by omega) rfl b2 Fr.rf rfl rfl) ?_
  rintro s ⟨x1, x2⟩
  exact ⟨x1, f2.tr x2⟩
theorem lp_playsTo {Ln : Int} {d : Nat} {C σ0 : AS} {F : FD} {t i : Int} {n : Nat} (hO : OKB C n) (hD : OKD C) (hF : ruM Ln n C F) (hf : Fr wkX wkF C σ0) (hfo : ∀ p : Int, 0 ≤ p → p < 10 → σ0 121 p = -1) (hR : 0 ≤ σ0 82 63 ∧ σ0 82 63 ≤ 100) (hls : rl (σ0 82 63) (σ0 126) = lst C 3999 t (C 7 11)) (hi : 0 ≤ i ∧ i < C 7 11) :
    ∀ (q : Nat) (j : Int) (σ : AS), 0 ≤ j → j ≤ σ0 82 63 → (σ0 82 63 - j).toNat = q → RM (mpl C F t fo0 (rl j (σ0 126)) m0) σ → Fr pmX pmF σ0 σ → σ 126 = σ0 126 → σ 82 63 = σ0 82 63 → (∀ k : Int, 0 ≤ k → k < j → σ0 126 k ≠ i) →
    am_E Ln (d + 8) 212 14 [vR 82, vI i, vI t, vI j, vU] [] σ (am_rI fun r σ' => r = (if knw C t i = true then 1 else 0) ∧ Fr pmX pmF σ0 σ' ∧ (knw C t i = true → RM (mPre C F t i) σ')) := by
  have hin := lst_rng (dd := 3999) (t := t) hO
  rw [← hls] at hin
  intro q
  induction q with
  | zero =>
    intro j σ h0 h1 hq hr hfr e126 e63 hne
    obtain rfl : j = σ0 82 63 := by omega
    have hk : ¬ knw C t i = true := by
      intro hk
      have hm : i ∈ rl (σ0 82 63) (σ0 126) := by rw [hls]; exact (lst_in hO.2.2.2.2.2.1).mpr ⟨hi, hk, (hD i hi.1 hi.2).2⟩
      obtain ⟨k, a, b, c⟩ := rl_mem.mp hm
      exact hne k a b c
    exact vl_X12_playsTo_14 _ _ _ _ ⟨fun _ => ⟨am_b0, by rw [if_neg hk], hfr, fun h => absurd h hk⟩, fun h => absurd (by omega) h⟩
  | succ q ih =>
    intro j σ h0 h1 hq hr hfr e126 e63 hne
    have fC : Fr wkX wkF C σ := hf.tr (hfr.mo (by decide) (by decide))
    have hij := hin (σ0 126 j) (rl_mem.mpr ⟨j, h0, by omega, rfl⟩)
    refine vl_X12_playsTo_14 _ _ _ _ ⟨fun h => absurd h (by omega), fun _ => ⟨⟨h0, by omega⟩, ?_⟩⟩
    rw [e126]
    refine ⟨fun h => ⟨am_b1, ?_⟩, fun h => ⟨⟨h0, by omega⟩, cI (sp_actsL (d := d) hO hF fC (by rw [hfr.cell 121 (by decide)]; exact fun p a b => ⟨hfo p a b, by show (-1 : Int) ≤ -1; omega, by show (-1 : Int) ≤ 4; omega⟩) (fun x hx => hin x (rl_pre h0 h1 x hx)) (by rw [rl_len]; omega) hr hij) ?_⟩⟩
    · have hm : i ∈ lst C 3999 t (C 7 11) := by rw [← hls]; exact rl_mem.mpr ⟨j, h0, by omega, h⟩
      have hk := ((lst_in hO.2.2.2.2.2.1).mp hm).2.1
      refine ⟨by rw [if_pos hk], hfr, fun _ => ?_⟩
      unfold mPre preL
      rw [← hls]
      obtain ⟨jj, rfl⟩ : ∃ jj : Nat, j = jj := ⟨j.toNat, by omega⟩
      obtain ⟨RR, hRR⟩ : ∃ RR : Nat, σ0 82 63 = RR := ⟨(σ0 82 63).toNat, by omega⟩
      rw [hRR, takeW_rl (by omega) h (fun k a b => hne k a b)]
      exact hr
    · rintro r s1 ⟨-, x2, x3, -⟩
      rw [w32_id (by omega) (by omega)]
      refine ih (j + 1) s1 (by omega) (by omega) (by omega) ?_ (hfr.tr (x3.mo (by decide) (by decide))) (by rw [x3.cell 126 (by decide)]; exact e126) (by rw [x3.fld 82 63 (by decide)]; exact e63) (fun k a b => ?_)
      · rw [rl_succ _ h0, mpl_app]
        exact x2
      · by_cases e : k = j
        · rw [e]; exact h
        · exact hne k a (by omega)
theorem sp_playsTo {Ln : Int} {d : Nat} {C σ : AS} {F : FD} {t i : Int} {n : Nat} (hO : OKB C n) (hD : OKD C) (hF : ruM Ln n C F) (hf : Fr wkX wkF C σ) (hfo : ∀ p : Int, 0 ≤ p → p < 10 → σ 121 p = -1) (hi : 0 ≤ i ∧ i < C 7 11) :
    am_M Ln (d + 9) 212 [vR 82, vI i, vI t] σ (am_rI fun r σ' => r = (if knw C t i = true then 1 else 0) ∧ Fr pmX pmF σ σ' ∧ (knw C t i = true → RM (mPre C F t i) σ')) := by
  refine vm_X12_playsTo _ _ _ (cV (sp_mlists (dd := 4000) (t := t) hO hf) ?_)
  rintro s1 ⟨a1, a2, a3⟩
  rw [lst_day hO hD] at a3
  refine cV (sp_empties s1) ?_
  rintro s2 ⟨b1, b2⟩
  have e63 : s2 82 63 = s1 82 63 := b1.fld 82 63 (by decide)
  have e126 : s2 126 = s1 126 := b1.cell 126 (by decide)
  have f2 : Fr pmX pmF σ s2 := (a1.mo (by decide) (by decide)).tr (b1.mo (by decide) (by decide))
  refine am_EI (lp_playsTo (d := d) hO hD hF (hf.tr (f2.mo (by decide) (by decide))) (by rw [f2.cell 121 (by decide)]; exact hfo) (by rw [e63]; exact a2) (by rw [e63, e126]; exact a3) hi _ 0 s2 (by omega) (by omega) rfl b2 Fr.rf rfl rfl (fun k a b => absurd b (by omega))) ?_
  rintro r s ⟨x1, x2, x3⟩
  exact ⟨x1, f2.tr x2, x3⟩
theorem mfl_app {C : AS} {F : FD} {t : Int} {fo : Int → Int} : ∀ {a b : List Int} {m : MS}, mfl C F t fo (a ++ b) m = mfl C F t fo a m + mfl C F t fo b (mpl C F t fo a m)
  | [], b, m => by rw [List.nil_append, mfl, mpl, Int.zero_add]
  | i :: r, b, m => by rw [List.cons_append, mfl, mfl, mpl, mfl_app, Int.add_assoc]
theorem mfl_bd {C : AS} {F : FD} {t : Int} {fo : Int → Int} : ∀ {a : List Int} {m : MS}, 0 ≤ mfl C F t fo a m ∧ mfl C F t fo a m ≤ a.length
  | [], _ => ⟨Int.le_refl 0, Int.le_refl 0⟩
  | i :: r, m => by
    have := mfl_bd (C := C) (F := F) (t := t) (fo := fo) (a := r) (m := mact C F t fo i m)
    rw [mfl, List.length_cons]
    split <;> omega
theorem lp_mfails {Ln : Int} {d : Nat} {C σ0 : AS} {F : FD} {dd t : Int} {n : Nat} (hO : OKB C n) (hF : ruM Ln n C F) (hf : Fr wkX wkF C σ0) (hfo : ∀ p : Int, 0 ≤ p → p < 10 → σ0 121 p = -1) (hR : 0 ≤ σ0 82 63 ∧ σ0 82 63 ≤ 100) (hls : rl (σ0 82 63) (σ0 126) = lst C dd t (C 7 11)) :
    ∀ (q : Nat) (j : Int) (σ : AS), 0 ≤ j → j ≤ σ0 82 63 → (σ0 82 63 - j).toNat = q → RM (mpl C F t fo0 (rl j (σ0 126)) m0) σ → Fr pmX pmF σ0 σ → σ 126 = σ0 126 → σ 82 63 = σ0 82 63 →
    am_E Ln (d + 8) 216 25 [vR 82, vI t, vI (mfl C F t fo0 (rl j (σ0 126)) m0), vI j] [] σ (am_rI fun r σ' => r = mfl C F t fo0 (lst C dd t (C 7 11)) m0 ∧ Fr pmX pmF σ0 σ') := by
  intro q
  induction q with
  | zero =>
    intro j σ h0 h1 hq hr hfr e126 e63
    obtain rfl : j = σ0 82 63 := by omega
    rw [hls]
    exact vl_X12_fails_25 _ _ _ _ ⟨fun _ => ⟨rfl, hfr⟩, fun h => absurd (by omega) h⟩
  | succ q ih =>
    intro j σ h0 h1 hq hr hfr e126 e63
    have fC : Fr wkX wkF C σ := hf.tr (hfr.mo (by decide) (by decide))
    have hin := lst_rng (dd := dd) (t := t) hO
    rw [← hls] at hin
    have hi := hin (σ0 126 j) (rl_mem.mpr ⟨j, h0, by omega, rfl⟩)
    have hb := mfl_bd (C := C) (F := F) (t := t) (fo := fo0) (a := rl j (σ0 126)) (m := m0)
    rw [rl_len] at hb
    refine vl_X12_fails_25 _ _ _ _ ⟨fun h => absurd h (by omega), fun _ => ⟨⟨h0, by omega⟩, ?_⟩⟩
    rw [e126]
    refine cI (sp_actsL (d := d) (fo := fo0) hO hF fC (by rw [hfr.cell 121 (by decide)]; exact fun p a b => ⟨hfo p a b, by show (-1 : Int) ≤ -1; omega, by show (-1 : Int) ≤ 4; omega⟩) (fun x hx => hin x (rl_pre h0 h1 x hx)) (by rw [rl_len]; omega) hr hi) ?_
    rintro r s1 ⟨x1, x2, x3, -⟩
    have key := ih (j + 1) s1 (by omega) (by omega) (by omega) (by rw [rl_succ _ h0, mpl_app]; exact x2) (hfr.tr (x3.mo (by decide) (by decide))) (by rw [x3.cell 126 (by decide)]; exact e126) (by rw [x3.fld 82 63 (by decide)]; exact e63)
    rw [rl_succ _ h0, mfl_app, mfl, mfl, Int.add_zero] at key
    refine ⟨fun h => ?_, fun h => ?_⟩
    · have hm : mfail C (σ0 126 j) (mpl C F t fo0 (rl j (σ0 126)) m0) = true := by
        by_cases z : mfail C (σ0 126 j) (mpl C F t fo0 (rl j (σ0 126)) m0) = true
        · exact z
        · rw [if_neg z] at x1; omega
      rw [if_pos hm] at key
      rw [w32_id (by omega) (by omega), w32_id (by omega) (by omega)]
      exact key
    · have hm : ¬ mfail C (σ0 126 j) (mpl C F t fo0 (rl j (σ0 126)) m0) = true := fun z => by rw [if_pos z] at x1; exact h x1
      rw [if_neg hm] at key
      rw [w32_id (x := mfl C F t fo0 (rl j (σ0 126)) m0 + 0) (by omega) (by omega), w32_id (by omega) (by omega)]
      exact key
