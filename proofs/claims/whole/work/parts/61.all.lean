/-! playing all, by the class -/
def m0 : MS := (fun _ => [], fun _ => 0, fun _ => 0)
theorem m0_MI : MI 0 m0 := ⟨by omega, fun p _ _ => ⟨pok_nil, clean_nil, Int.le_refl 0⟩, by show sm (fun _ => (([] : MP).length : Int)) 10 ≤ _; exact Int.le_refl 0, fun c _ _ => ⟨⟨Int.le_refl 0, Int.le_refl 0⟩, Int.le_refl 0, Int.le_refl 0⟩⟩
def fo0 : Int → Int := fun _ => -1
/-- what the class lists -/
def xlst (C : AS) (d t : Int) (σ σ' : AS) : Prop := Fr [65, 66] [(40, 7), (40, 9)] σ σ' ∧ σ' 40 9 = t ∧ (∀ p : Int, 0 ≤ p → p < 10 → σ' 66 p = -1) ∧ (0 ≤ σ' 40 7 ∧ σ' 40 7 ≤ C 7 11) ∧ rl (σ' 40 7) (σ' 65) = lst C d t (C 7 11)
theorem sp_list {Ln : Int} {dd : Nat} {C σ : AS} {d t : Int} (hf : Fr wkX wkF C σ) (hn : 0 ≤ C 7 11 ∧ C 7 11 ≤ 100) (hs : ∀ k : Int, 0 ≤ k → k < C 7 11 → 0 ≤ C 18 k ∧ C 18 k < 100) : am_M Ln (dd + 2) 31 [vR 40, vI d, vI t] σ (am_rV (xlst C d t σ)) := by
  refine vm_X6_list _ _ _ (cV (sp_fill_66 _ (-1)) ?_)
  rintro s1 ⟨f, rfl, hf1⟩
  obtain ⟨ρ, hρ⟩ : ∃ ρ, ρ = zc (am_up (am_up σ 40 7 0) 40 9 t) 66 f := ⟨_, rfl⟩
  rw [← hρ]
  have fr : Fr [65, 66] [(40, 7), (40, 9)] σ ρ := by rw [hρ]; exact Fr.cl (Fr.up (Fr.up Fr.rf (Or.inr (by decide))) (Or.inr (by decide))) (by decide)
  have h7 : ρ 40 7 = 0 := by rw [hρ, zc_ne (by decide), am_up_eq, if_neg (by decide), am_up_eq, if_pos rfl]
  have h9 : ρ 40 9 = t := by rw [hρ, zc_ne (by decide), am_up_eq, if_pos rfl]
  refine am_EV (lp_list (C := C) (σ0 := ρ) (d := d) (t := t) (hf.tr (fr.mo (by decide) (by decide))) hn hs _ 0 ρ (by omega) (by omega) rfl ⟨Fr.rf, by omega, by rw [h7]; rfl⟩) ?_
  rintro s ⟨x1, x2, x3⟩
  refine ⟨fr.tr (x1.mo (by decide) (by decide)), by rw [x1.fld 40 9 (by decide)]; exact h9, fun p a b => ?_, x2, x3⟩
  rw [x1.cell 66 (by decide), hρ, zc_eq]
  exact hf1 p a b
theorem RX_0 {σ : AS} (h3 : σ 41 3 = 0) (h45 : ∀ o : Int, 0 ≤ o → o < 10 → σ 45 o = -1) (h46 : ∀ c : Int, 0 ≤ c → c < 100 → σ 46 c = 0 ∧ σ 47 c = 0) : RX m0 σ := by
  refine ⟨⟨by omega, fun i a b => absurd b (by omega), fun p a b => Or.inl ⟨h45 p a b, fun i c0 c1 => absurd c1 (by omega)⟩⟩, fun p a b => ?_, fun c a b => (h46 c a b).1, fun c a b => (h46 c a b).2⟩
  unfold xp xl
  rw [h3]
  rfl
theorem lst_mem {C : AS} {d t k i : Int} (h : i ∈ lst C d t k) : ∃ x, 0 ≤ x ∧ x < k ∧ C 18 x = i ∧ knw C t i = true ∧ C 13 i ≤ d := by
  unfold lst at h
  obtain ⟨h1, h2⟩ := List.mem_filter.mp h
  obtain ⟨x, a, b, c⟩ := rl_mem.mp h1
  simp at h2
  exact ⟨x, a, b, c, h2.1, h2.2⟩
theorem lst_lv {C σ : AS} {d t : Int} (hlv : ∀ k : Int, 0 ≤ k → k < C 7 11 → lv C (C 18 k)) (h : rl (σ 40 7) (σ 65) = lst C d t (C 7 11)) : ∀ x : Int, 0 ≤ x → x < σ 40 7 → lv C (σ 65 x) := by
  intro x a b
  have : σ 65 x ∈ lst C d t (C 7 11) := by rw [← h]; exact rl_mem.mpr ⟨x, a, b, rfl⟩
  obtain ⟨y, c, e, g, -⟩ := lst_mem this
  rw [← g]
  exact hlv y c e
theorem sp_play {Ln : Int} {d : Nat} {C σ : AS} {F : FD} {m : MS} {t a b n : Int} {fo : Int → Int} (hF : ruX Ln C F) (hkn : C 19 4 ≤ 100) (hr : RX m σ) (hm : MI a m) (hf : Fr wkX wkF C σ) (ht : σ 40 9 = t) (h9 : 0 ≤ σ 41 9) (hfo : ∀ p : Int, 0 ≤ p → p < 10 → σ 66 p = fo p ∧ -1 ≤ fo p ∧ fo p ≤ 4)
    (hn : n = min b (σ 40 7)) (hn1 : n ≤ 100) (hlv : ∀ x : Int, 0 ≤ x → x < n → lv C (σ 65 x)) (h0 : 0 ≤ a) :
    am_M Ln (d + 6) 36 [vR 40, vI a, vI b] σ (am_rV fun σ' => RX (mpl C F t fo (rl (n - a) (fun x => σ 65 (a + x))) m) σ' ∧ Fr plX plF σ σ' ∧ 0 ≤ σ' 41 9 ∧ σ' 40 14 = mfl C F t fo (rl (n - a) (fun x => σ 65 (a + x))) m) := by
  refine vm_X6_play _ _ _ ?_
  have fr : Fr [] [(40, 14)] σ (am_up σ 40 14 0) := Fr.up Fr.rf (Or.inr (by decide))
  obtain ⟨ρ, hρ⟩ : ∃ ρ, ρ = am_up σ 40 14 0 := ⟨_, rfl⟩
  rw [← hρ] at fr ⊢
  have h14 : ρ 40 14 = 0 := by rw [hρ, am_up_eq, if_pos rfl]
  have e65 : ρ 65 = σ 65 := fr.cell 65 (by decide)
  refine am_EV (lp_play (t := t) (e := b) (n := n) hF hkn _ ρ m a (RX_fr hr fr (by decide) (by decide) (by decide)) hm (hf.tr (fr.mo (by decide) (by decide))) (by rw [fr.fld 40 9 (by decide)]; exact ht) (by rw [fr.fld 41 9 (by decide)]; exact h9) (by rw [fr.cell 66 (by decide)]; exact hfo) (by rw [fr.fld 40 7 (by decide)]; exact hn) hn1 (by rw [e65]; exact hlv) (by omega) h0 rfl) ?_
  rintro s ⟨x1, x2, x3, x4⟩
  rw [e65] at x1 x4
  exact ⟨x1, (fr.mo (by decide) (by decide)).tr x2, x3, by rw [x4, h14, Int.zero_add]⟩
/-- all lines known on t up to day d, played from nothing -/
def mAll (C : AS) (F : FD) (d t : Int) : MS := mpl C F t fo0 (lst C d t (C 7 11)) m0
theorem sp_playAll {Ln : Int} {dd : Nat} {C σ : AS} {F : FD} {d t : Int} (hF : ruX Ln C F) (hkn : C 19 4 ≤ 100) (hf : Fr wkX wkF C σ) (hn : 0 ≤ C 7 11 ∧ C 7 11 ≤ 100) (hlv : ∀ k : Int, 0 ≤ k → k < C 7 11 → lv C (C 18 k)) :
    am_M Ln (dd + 7) 32 [vR 40, vI d, vI t] σ (am_rV fun σ' => RX (mAll C F d t) σ' ∧ Fr clX clF σ σ' ∧ 0 ≤ σ' 41 9 ∧ σ' 40 14 = mfl C F t fo0 (lst C d t (C 7 11)) m0) := by
  refine vm_X6_playAll _ _ _ (cV (sp_list hf hn (fun k a b => (hlv k a b).1)) ?_)
  rintro s1 ⟨l1, l2, l3, l4, l5⟩
  refine cV (sp_clear s1) ?_
  rintro s2 ⟨c1, c2, c3, c4, c5⟩
  have e65 : s2 65 = s1 65 := c3.cell 65 (by decide)
  have e7 : s2 40 7 = s1 40 7 := c3.fld 40 7 (by decide)
  have f2 : Fr clX clF σ s2 := (l1.mo (by decide) (by decide)).tr (c3.mo (by decide) (by decide))
  have hls : rl (s2 40 7) (s2 65) = lst C d t (C 7 11) := by rw [e65, e7]; exact l5
  refine cV (sp_play (fo := fo0) (t := t) (n := s2 40 7) hF hkn (RX_0 c1 (fun o a b => (c4 o a b).2) c5) m0_MI (hf.tr (f2.mo (by decide) (by decide))) (by rw [c3.fld 40 9 (by decide)]; exact l2) (by omega) (fun p a b => ⟨by rw [c3.cell 66 (by decide)]; exact l3 p a b, by show (-1 : Int) ≤ -1; omega, by show (-1 : Int) ≤ 4; omega⟩) (by omega) (by omega) (lst_lv hlv hls) (by omega)) ?_
  rintro s ⟨x1, x2, x3, x4⟩
  have el : rl (s2 40 7 - 0) (fun x => s2 65 (0 + x)) = lst C d t (C 7 11) := by
    rw [← hls, show s2 40 7 - 0 = s2 40 7 by omega]
    exact rl_congr fun x _ _ => by rw [Int.zero_add]
  rw [el] at x1 x4
  exact ⟨x1, f2.tr (x2.mo (by decide) (by decide)), x3, x4⟩
