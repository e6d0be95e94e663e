/-! the class sorts a day's lines by number -/
def SRT (f : Int → Int) (a b : Int) (g : Int → Int) : Prop := (∀ x : Int, ¬ (a ≤ x ∧ x < b) → g x = f x) ∧ (∀ x : Int, a ≤ x → x < b → ∃ y : Int, (a ≤ y ∧ y < b) ∧ g x = f y) ∧ (∀ y : Int, a ≤ y → y < b → ∃ x : Int, (a ≤ x ∧ x < b) ∧ g x = f y) ∧ ∀ x y : Int, a ≤ x → x < b → a ≤ y → y < b → g x = g y → x = y
def fsw (g : Int → Int) (i j : Int) : Int → Int := fu (fu g i (g j)) j (g i)
theorem fsw_i {g : Int → Int} {i j : Int} : fsw g i j i = g j := by
  unfold fsw
  rw [fu_app, fu_app]
  by_cases h : i = j
  · rw [if_pos h, h]
  · rw [if_neg h, if_pos rfl]
theorem fsw_j {g : Int → Int} {i j : Int} : fsw g i j j = g i := by
  unfold fsw
  rw [fu_app, if_pos rfl]
theorem fsw_n {g : Int → Int} {i j x : Int} (h1 : x ≠ i) (h2 : x ≠ j) : fsw g i j x = g x := by
  unfold fsw
  rw [fu_app, fu_app, if_neg h2, if_neg h1]
theorem SRT_sw {f g : Int → Int} {a b i j : Int} (h : SRT f a b g) (hi : a ≤ i ∧ i < b) (hj : a ≤ j ∧ j < b) : SRT f a b (fsw g i j) := by
  obtain ⟨h1, h2, h3, h4⟩ := h
  have val : ∀ x : Int, a ≤ x → x < b → ∃ y : Int, (a ≤ y ∧ y < b) ∧ fsw g i j x = g y ∧ (y = j ∧ x = i ∨ y = i ∧ x = j ∨ y = x ∧ x ≠ i ∧ x ≠ j) := by
    intro x x0 x1
    by_cases e : x = i
    · exact ⟨j, hj, by rw [e, fsw_i], Or.inl ⟨rfl, e⟩⟩
    · by_cases e2 : x = j
      · exact ⟨i, hi, by rw [e2, fsw_j], Or.inr (Or.inl ⟨rfl, e2⟩)⟩
      · exact ⟨x, ⟨x0, x1⟩, by rw [fsw_n e e2], Or.inr (Or.inr ⟨rfl, e, e2⟩)⟩
  refine ⟨fun x hx => ?_, fun x x0 x1 => ?_, fun y y0 y1 => ?_, fun x y x0 x1 y0 y1 e => ?_⟩
  · rw [fsw_n (by omega) (by omega)]; exact h1 x hx
  · obtain ⟨y, hy, e, -⟩ := val x x0 x1
    rw [e]
    exact h2 y hy.1 hy.2
  · obtain ⟨x, hx, e⟩ := h3 y y0 y1
    by_cases e1 : x = i
    · exact ⟨j, hj, by rw [fsw_j, ← e1]; exact e⟩
    · by_cases e2 : x = j
      · exact ⟨i, hi, by rw [fsw_i, ← e2]; exact e⟩
      · exact ⟨x, hx, by rw [fsw_n e1 e2]; exact e⟩
  · obtain ⟨u, hu, e1, c1⟩ := val x x0 x1
    obtain ⟨v, hv, e2, c2⟩ := val y y0 y1
    rw [e1, e2] at e
    have := h4 u v hu.1 hu.2 hv.1 hv.2 e
    omega
section SO
variable {Ln : Int} {d : Nat} {σ : AS} {f : Int → Int} {a b : Int}
theorem lp_sort17 (ha : 0 ≤ a) (hb : b ≤ 100) (h2 : σ 69 2 = a) (h3 : σ 69 3 = b) {i : Int} (hi : a ≤ i ∧ i < b)
    (hk : ∀ g : Int → Int, SRT f a b g → (∀ x y : Int, a ≤ x → x < i + 1 → x < y → y < b → g x < g y) → am_E Ln (d + 1) 27 5 [vR 69, vI (i + 1), vU] [] (zc σ 65 g) (am_rV fun s' => ∃ g, s' = zc σ 65 g ∧ SRT f a b g ∧ ∀ x y : Int, a ≤ x → x < y → y < b → g x < g y)) : ∀ (m : Nat) (j : Int) (g : Int → Int), j + m = b → i < j → SRT f a b g → (∀ x y : Int, a ≤ x → x < i → x < y → y < b → g x < g y) → (∀ y : Int, i < y → y < j → g i < g y) →
    am_E Ln (d + 1) 27 17 [vR 69, vI i, vI j] [] (zc σ 65 g) (am_rV fun s' => ∃ g, s' = zc σ 65 g ∧ SRT f a b g ∧ ∀ x y : Int, a ≤ x → x < y → y < b → g x < g y) := by
  intro m
  induction m with
  | zero =>
    intro j g hj hij hg hp hm
    refine vl_X4_sortByNumber_17 _ _ _ ⟨fun _ => ?_, fun q => absurd ?_ q⟩
    · rw [w32_id (x := i + 1) (by omega) (by omega)]
      refine hk g hg (fun x y x0 x1 xy y1 => ?_)
      by_cases e : x = i
      · rw [e]; exact hm y (by omega) (by omega)
      · exact hp x y x0 (by omega) xy y1
    · rw [zc_ne (by decide), h3]; omega
  | succ m ih =>
    intro j g hj hij hg hp hm
    refine vl_X4_sortByNumber_17 _ _ _ ⟨fun q => absurd q ?_, fun _ => ⟨by omega, by omega, fun e => ?_, fun e => ?_⟩⟩
    · rw [zc_ne (by decide), h3]; omega
    · rw [zc_eq] at e
      rw [w32_id (x := j + 1) (by omega) (by omega)]
      refine ih (j + 1) g (by omega) (by omega) hg hp (fun y y0 y1 => ?_)
      by_cases z : y = j
      · rw [z]
        by_cases q : g i = g j
        · have := hg.2.2.2 i j (by omega) (by omega) (by omega) (by omega) q
          omega
        · omega
      · exact hm y y0 (by omega)
    · rw [zc_eq] at e
      refine cV (sp_swap (by omega) (by omega)) ?_
      rintro s1 rfl
      rw [w32_id (x := j + 1) (by omega) (by omega)]
      refine ih (j + 1) (fsw g i j) (by omega) (by omega) (SRT_sw hg hi (by omega)) (fun x y x0 x1 xy y1 => ?_) (fun y y0 y1 => ?_)
      · rw [fsw_n (x := x) (by omega) (by omega)]
        by_cases z : y = i
        · rw [z, fsw_i]; exact hp x j x0 x1 (by omega) (by omega)
        · by_cases z2 : y = j
          · rw [z2, fsw_j]; exact hp x i x0 x1 (by omega) (by omega)
          · rw [fsw_n z z2]; exact hp x y x0 x1 xy y1
      · rw [fsw_i]
        by_cases z : y = j
        · rw [z, fsw_j]; omega
        · rw [fsw_n (by omega) z]
          have := hm y y0 (by omega)
          omega
theorem lp_sort5 (ha : 0 ≤ a) (hb : b ≤ 100) (h2 : σ 69 2 = a) (h3 : σ 69 3 = b) : ∀ (m : Nat) (i : Int) (g : Int → Int), i + m = b → a ≤ i → SRT f a b g → (∀ x y : Int, a ≤ x → x < i → x < y → y < b → g x < g y) →
    am_E Ln (d + 1) 27 5 [vR 69, vI i, vU] [] (zc σ 65 g) (am_rV fun s' => ∃ g, s' = zc σ 65 g ∧ SRT f a b g ∧ ∀ x y : Int, a ≤ x → x < y → y < b → g x < g y) := by
  intro m
  induction m with
  | zero =>
    intro i g hi h0 hg hp
    refine vl_X4_sortByNumber_5 _ _ ⟨fun _ => ⟨g, rfl, hg, fun x y x0 xy y1 => hp x y x0 (by omega) xy y1⟩, fun q => absurd ?_ q⟩
    rw [zc_ne (by decide), h3]; omega
  | succ m ih =>
    intro i g hi h0 hg hp
    refine vl_X4_sortByNumber_5 _ _ ⟨fun q => absurd q ?_, fun _ => ?_⟩
    · rw [zc_ne (by decide), h3]; omega
    · rw [w32_id (x := i + 1) (by omega) (by omega)]
      exact lp_sort17 ha hb h2 h3 ⟨h0, by omega⟩ (fun g' hg' hp' => ih (i + 1) g' (by omega) (by omega) hg' hp') m (i + 1) g (by omega) (by omega) hg hp (fun y y0 y1 => absurd y1 (by omega))
theorem sp_sortBy (ha : 0 ≤ a) (hab : a ≤ b) (hb : b ≤ 100) (h2 : σ 69 2 = a) (h3 : σ 69 3 = b) (hinj : ∀ x y : Int, a ≤ x → x < b → a ≤ y → y < b → σ 65 x = σ 65 y → x = y) : am_M Ln (d + 2) 27 [vR 69] σ (am_rV fun s' => ∃ g, s' = zc σ 65 g ∧ SRT (σ 65) a b g ∧ ∀ x y : Int, a ≤ x → x < y → y < b → g x < g y) := by
  refine vm_X4_sortByNumber _ ?_
  rw [h2]
  have k := lp_sort5 (Ln := Ln) (d := d) (f := σ 65) ha hb h2 h3 (b - a).toNat a (σ 65) (by omega) (Int.le_refl a) ⟨fun _ _ => rfl, fun x x0 x1 => ⟨x, ⟨x0, x1⟩, rfl⟩, fun y y0 y1 => ⟨y, ⟨y0, y1⟩, rfl⟩, hinj⟩ (fun x y x0 x1 => absurd x1 (by omega))
  rw [zc_self] at k
  exact k
/-! a lawful order -/
def LWO (C : AS) (x y : Int) : Prop := C 14 x ≤ C 15 y
def lwB (C : AS) : List Int → Bool
  | [] => true
  | x :: l => l.all (fun y => decide (C 14 x ≤ C 15 y)) && lwB C l
theorem lwB_iff {C : AS} : ∀ {L : List Int}, lwB C L = true ↔ L.Pairwise (LWO C)
  | [] => ⟨fun _ => List.Pairwise.nil, fun _ => rfl⟩
  | x :: l => by
    rw [lwB, Bool.and_eq_true, lwB_iff, List.pairwise_cons, List.all_eq_true]
    refine and_congr ⟨fun h y hy => of_decide_eq_true (p := C 14 x ≤ C 15 y) (h y hy), fun h y hy => decide_eq_true (p := C 14 x ≤ C 15 y) (h y hy)⟩ Iff.rfl
variable {C : AS} {h : Int → Int}
theorem lp_lawo17 (ha : 0 ≤ a) (hb : b ≤ 100) (h3 : σ 69 3 = b) (h65 : σ 65 = h) (hr : ∀ x : Int, a ≤ x → x < b → 0 ≤ h x ∧ h x < 100) (e14 : σ 14 = C 14) (e15 : σ 15 = C 15) {i : Int} (hi : a ≤ i ∧ i < b) {Q : Option AV → AS → Prop} (hno : ¬ (∀ y : Int, i < y → y < b → LWO C (h i) (h y)) → Q (some (vI 0)) σ) (hyes : (∀ y : Int, i < y → y < b → LWO C (h i) (h y)) → am_E Ln d 26 5 [vR 69, vI (i + 1), vU] [] σ Q) : ∀ (m : Nat) (j : Int), j + m = b → i < j → (∀ y : Int, i < y → y < j → LWO C (h i) (h y)) →
    am_E Ln d 26 17 [vR 69, vI i, vI j] [] σ Q := by
  intro m
  induction m with
  | zero =>
    intro j hj hij hall
    refine vl_X4_isLawful_17 _ _ _ ⟨fun _ => ?_, fun q => absurd ?_ q⟩
    · rw [w32_id (x := i + 1) (by omega) (by omega)]
      exact hyes (fun y y0 y1 => hall y y0 (by omega))
    · rw [h3]; omega
  | succ m ih =>
    intro j hj hij hall
    refine vl_X4_isLawful_17 _ _ _ ⟨fun q => absurd q ?_, fun _ => ?_⟩
    · rw [h3]; omega
    · rw [h65, e14, e15, w32_id (x := j + 1) (by omega) (by omega)]
      have r1 := hr i hi.1 hi.2
      have r2 := hr j (by omega) (by omega)
      refine ⟨by omega, r2, by omega, r1, fun e => ?_, fun e => ⟨am_b0, hno (fun q => e (q j hij (by omega)))⟩⟩
      refine ih (j + 1) (by omega) (by omega) (fun y y0 y1 => ?_)
      by_cases z : y = j
      · rw [z]; exact e
      · exact hall y y0 (by omega)
theorem lp_lawo5 (ha : 0 ≤ a) (hb : b ≤ 100) (h3 : σ 69 3 = b) (h65 : σ 65 = h) (hr : ∀ x : Int, a ≤ x → x < b → 0 ≤ h x ∧ h x < 100) (e14 : σ 14 = C 14) (e15 : σ 15 = C 15) : ∀ (m : Nat) (i : Int), i + m = b → a ≤ i → (∀ x y : Int, a ≤ x → x < i → x < y → y < b → LWO C (h x) (h y)) →
    am_E Ln d 26 5 [vR 69, vI i, vU] [] σ (am_rI fun r s' => s' = σ ∧ (r ≠ 0 ↔ ∀ x y : Int, a ≤ x → x < y → y < b → LWO C (h x) (h y))) := by
  intro m
  induction m with
  | zero =>
    intro i hi h0 hall
    refine vl_X4_isLawful_5 _ _ ⟨fun _ => ⟨am_b1, rfl, fun _ x y x0 xy y1 => hall x y x0 (by omega) xy y1, fun _ => by decide⟩, fun q => absurd ?_ q⟩
    rw [h3]; omega
  | succ m ih =>
    intro i hi h0 hall
    refine vl_X4_isLawful_5 _ _ ⟨fun q => absurd q ?_, fun _ => ?_⟩
    · rw [h3]; omega
    · rw [w32_id (x := i + 1) (by omega) (by omega)]
      refine lp_lawo17 ha hb h3 h65 hr e14 e15 ⟨h0, by omega⟩ (fun q => ⟨rfl, fun z => absurd rfl z, fun z => absurd (fun y y0 y1 => z i y h0 y0 y1) q⟩) (fun q => ih (i + 1) (by omega) (by omega) (fun x y x0 x1 xy y1 => ?_)) m (i + 1) (by omega) (by omega) (fun y y0 y1 => absurd y1 (by omega))
      by_cases z : x = i
      · rw [z]; exact q y (by omega) y1
      · exact hall x y x0 (by omega) xy y1
theorem sp_isLawO (ha : 0 ≤ a) (hab : a ≤ b) (hb : b ≤ 100) (h2 : σ 69 2 = a) (h3 : σ 69 3 = b) (h65 : σ 65 = h) (hr : ∀ x : Int, a ≤ x → x < b → 0 ≤ h x ∧ h x < 100) (e14 : σ 14 = C 14) (e15 : σ 15 = C 15) :
    am_M Ln (d + 1) 26 [vR 69] σ (am_rI fun r s' => s' = σ ∧ (r ≠ 0 ↔ ∀ x y : Int, a ≤ x → x < y → y < b → LWO C (h x) (h y))) := by
  refine vm_X4_isLawful _ ?_
  rw [h2]
  exact lp_lawo5 ha hb h3 h65 hr e14 e15 (b - a).toNat a (by omega) (Int.le_refl a) (fun x y x0 x1 => absurd x1 (by omega))
end SO
