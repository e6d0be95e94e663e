/-! the class's order of a day -/
def pat (f : Int → Int) (a : Int) (n : Nat) (s : Nat → Int) (t : List Nat) : Int → Int := fun x => if a ≤ x ∧ x < a + n then s (t.getD (x - a).toNat 0) else f x
theorem getD_set {t : List Nat} {i v j : Nat} : (t.set i v).getD j 0 = if j = i ∧ i < t.length then v else t.getD j 0 := by
  rw [List.getD_eq_getElem?_getD, List.getElem?_set, List.getD_eq_getElem?_getD]
  by_cases h : i = j
  · subst h
    rw [if_pos rfl]
    by_cases h2 : i < t.length
    · rw [if_pos h2, if_pos ⟨rfl, h2⟩]; rfl
    · rw [if_neg h2, if_neg (fun q => h2 q.2), List.getElem?_eq_none (by omega)]
  · rw [if_neg h, if_neg (fun q => h q.1.symm)]
theorem swp_len {t : List Nat} {i j : Nat} : (swp t i j).length = t.length := by
  unfold swp
  rw [List.length_set, List.length_set]
theorem pat_at {f : Int → Int} {a : Int} {n : Nat} {s : Nat → Int} {t : List Nat} {i : Nat} (h : i < n) : pat f a n s t (a + i) = s (t.getD i 0) := by
  unfold pat
  rw [if_pos (by omega), show (a + (i : Int) - a).toNat = i by omega]
theorem pat_swp {f : Int → Int} {a : Int} {n : Nat} {s : Nat → Int} {t : List Nat} {i j : Nat} (ht : t.length = n) (hi : i < n) (hj : j < n) : fu (fu (pat f a n s t) (a + i) (pat f a n s t (a + j))) (a + j) (pat f a n s t (a + i)) = pat f a n s (swp t i j) := by
  funext x
  rw [fu_app, fu_app, pat_at hi, pat_at hj]
  unfold pat swp
  by_cases hx : a ≤ x ∧ x < a + n
  · rw [if_pos hx, if_pos hx, getD_set, getD_set, List.length_set]
    by_cases e : x = a + j
    · rw [if_pos e, if_pos (by omega)]
    · rw [if_neg e, if_neg (by omega : ¬ ((x - a).toNat = j ∧ j < t.length))]
      by_cases e2 : x = a + i
      · rw [if_pos e2, if_pos (by omega)]
      · rw [if_neg e2, if_neg (by omega)]
  · rw [if_neg hx, if_neg hx, if_neg (by omega), if_neg (by omega)]
theorem ble_f {x y : Nat} (h : Nat.ble x y = false) : ¬ x ≤ y := fun q => by
  rw [Nat.ble_eq.mpr q] at h
  cases h
theorem fdI_s {t : List Nat} {m : Nat} : fdI t (m + 1) = if t.getD m 0 ≤ t.getD (m + 1) 0 then some m else fdI t m := by
  rw [fdI]
  cases hb : Nat.ble (t.getD m 0) (t.getD (m + 1) 0) with
  | true => rw [if_pos (Nat.le_of_ble_eq_true hb)]
  | false => rw [if_neg (ble_f hb)]
theorem fdJ_s {t : List Nat} {i m : Nat} : fdJ t i (m + 1) = if m + 1 ≤ i then m + 1 else if t.getD i 0 ≤ t.getD (m + 1) 0 then m + 1 else fdJ t i m := by
  rw [fdJ]
  cases hb : Nat.ble (m + 1) i with
  | true => rw [if_pos (Nat.le_of_ble_eq_true hb)]
  | false =>
    rw [if_neg (ble_f hb)]
    cases hb2 : Nat.ble (t.getD i 0) (t.getD (m + 1) 0) with
    | true => rw [if_pos (Nat.le_of_ble_eq_true hb2)]
    | false => rw [if_neg (ble_f hb2)]
theorem rvs_s {f lo hi : Nat} {t : List Nat} : rvs (f + 1) t lo hi = if hi ≤ lo then t else rvs f (swp t lo hi) (lo + 1) (hi - 1) := by
  rw [rvs]
  cases hb : Nat.ble hi lo with
  | true => rw [if_pos (Nat.le_of_ble_eq_true hb)]
  | false => rw [if_neg (ble_f hb)]
theorem fdJ_lt {t : List Nat} {i : Nat} : ∀ m : Nat, fdJ t i m ≤ m
  | 0 => Nat.le_refl 0
  | m + 1 => by
    have := fdJ_lt (t := t) (i := i) m
    rw [fdJ_s]
    split
    · omega
    · split <;> omega
theorem fdI_lt {t : List Nat} {i : Nat} : ∀ {m : Nat}, fdI t m = some i → i < m
  | 0, h => by cases h
  | m + 1, h => by
    rw [fdI_s] at h
    split at h
    · cases h; omega
    · have := fdI_lt h; omega
section CS
variable {Ln : Int} {d : Nat} {σ : AS} {f : Int → Int} {a : Int} {n : Nat} {s : Nat → Int}
theorem sp_swap {τ : AS} {g : Int → Int} {i j : Int} (hi : 0 ≤ i ∧ i < 100) (hj : 0 ≤ j ∧ j < 100) : am_M Ln (d + 1) 29 [vR 69, vI i, vI j] (zc τ 65 g) (am_rV fun s' => s' = zc τ 65 (fu (fu g i (g j)) j (g i))) := by
  refine vm_X4_swap _ _ _ ⟨hi, hj, hi, hj, ?_⟩
  show am_up (am_up (zc τ 65 g) 65 i (zc τ 65 g 65 j)) 65 j (zc τ 65 g 65 i) = _
  rw [zc_eq, up_zcs, up_zcs]
theorem lp_next111 (ha : 0 ≤ a) (hn : a + n ≤ 100) : ∀ (fl : Nat) (t : List Nat) (lo hi : Nat), t.length = n → hi < n → hi ≤ lo + fl →
    am_E Ln (d + 1) 28 111 [vR 69, vU, vU, vI (a + lo), vI (a + hi)] [] (zc σ 65 (pat f a n s t)) (am_rI fun r s' => r = 1 ∧ s' = zc σ 65 (pat f a n s (rvs fl t lo hi)))
  | 0, t, lo, hi, ht, h1, h2 => vl_X4_goToNext_111 _ _ _ ⟨fun _ => ⟨am_b1, rfl, rfl⟩, fun q => absurd (by omega) q⟩
  | fl + 1, t, lo, hi, ht, h1, h2 => by
    refine vl_X4_goToNext_111 _ _ _ ⟨fun e => ⟨am_b1, rfl, ?_⟩, fun e => ?_⟩
    · rw [rvs_s, if_pos (by omega)]
    · refine cV (sp_swap (by omega) (by omega)) ?_
      rintro s1 rfl
      rw [pat_swp ht (by omega) h1]
      have key := lp_next111 ha hn fl (swp t lo hi) (lo + 1) (hi - 1) (by rw [swp_len]; exact ht) (by omega) (by omega)
      rw [rvs_s, if_neg (by omega), w32_id (x := a + (lo : Int) + 1) (by omega) (by omega), w32_id (x := a + (hi : Int) + -1) (by omega) (by omega)]
      rw [show a + ((lo + 1 : Nat) : Int) = a + (lo : Int) + 1 by omega, show a + ((hi - 1 : Nat) : Int) = a + (hi : Int) + -1 by omega] at key
      exact key
theorem lp_next61 (ha : 0 ≤ a) (hn : a + n ≤ 100) (h2 : σ 69 2 = a) (h3 : σ 69 3 = a + n) {t : List Nat} (ht : t.length = n) (hmo : ∀ x y : Nat, x < n → y < n → (s (t.getD x 0) ≤ s (t.getD y 0) ↔ t.getD x 0 ≤ t.getD y 0)) {i : Nat} (hi : i < n - 1) : ∀ m : Nat, m < n → 
    am_E Ln (d + 2) 28 61 [vR 69, vI (a + i), vI (a + m), vU, vU] [] (zc σ 65 (pat f a n s t)) (am_rI fun r s' => r = 1 ∧ s' = zc σ 65 (pat f a n s (rvs n (swp t i (fdJ t i m)) (i + 1) (n - 1)))) := by
  have fin : ∀ m : Nat, m < n → ∃ T : Option AV → AS → Prop, am_M Ln (d + 2) 29 [vR 69, vI (a + i), vI (a + m)] (zc σ 65 (pat f a n s t)) T ∧ ∀ s1, T none s1 →
    am_E Ln (d + 2) 28 111 [vR 69, vU, vU, vI (w32 (a + i + 1)), vI (w32 (s1 69 3 - 1))] [] s1 (am_rI fun r s' => r = 1 ∧ s' = zc σ 65 (pat f a n s (rvs n (swp t i m) (i + 1) (n - 1)))) := by
    intro m hm
    refine cV (sp_swap (by omega) (by omega)) ?_
    rintro s1 rfl
    rw [pat_swp ht (by omega) hm, zc_ne (by decide), h3, w32_id (x := a + (i : Int) + 1) (by omega) (by omega), w32_id (x := a + (n : Int) - 1) (by omega) (by omega)]
    have key := lp_next111 (Ln := Ln) (d := d + 1) (σ := σ) (f := f) (s := s) ha hn n (swp t i m) (i + 1) (n - 1) (by rw [swp_len]; exact ht) (by omega) (by omega)
    rw [show a + ((i + 1 : Nat) : Int) = a + (i : Int) + 1 by omega, show a + ((n - 1 : Nat) : Int) = a + (n : Int) - 1 by omega] at key
    exact key
  intro m
  induction m with
  | zero =>
    intro hm
    exact vl_X4_goToNext_61 _ _ _ ⟨fun _ => fin 0 hm, fun q => absurd (by omega) q⟩
  | succ m ih =>
    intro hm
    refine vl_X4_goToNext_61 _ _ _ ⟨fun e => ?_, fun e => ⟨by omega, by omega, fun e2 => ?_, fun e2 => ?_⟩⟩
    · have := fin (m + 1) hm
      rw [fdJ_s, if_pos (by omega)]
      exact this
    · have := fin (m + 1) hm
      rw [zc_eq, pat_at (by omega), pat_at hm, hmo i (m + 1) (by omega) hm] at e2
      rw [fdJ_s, if_neg (by omega), if_pos e2]
      exact this
    · have := ih (by omega)
      rw [zc_eq, pat_at (by omega), pat_at hm, hmo i (m + 1) (by omega) hm] at e2
      rw [fdJ_s, if_neg (by omega), if_neg e2, w32_id (x := a + ((m + 1 : Nat) : Int) + -1) (by omega) (by omega), show a + ((m + 1 : Nat) : Int) + -1 = a + (m : Int) by omega]
      exact this
theorem lp_next7 (ha : 0 ≤ a) (hn : a + n ≤ 100) (h2 : σ 69 2 = a) (h3 : σ 69 3 = a + n) {t : List Nat} (ht : t.length = n) (hmo : ∀ x y : Nat, x < n → y < n → (s (t.getD x 0) ≤ s (t.getD y 0) ↔ t.getD x 0 ≤ t.getD y 0)) : ∀ m : Nat, m ≤ n - 1 → 
    am_E Ln (d + 2) 28 7 [vR 69, vI (a + m - 1), vU, vU, vU] [] (zc σ 65 (pat f a n s t)) (am_rI fun r s' => (fdI t m = none → r = 0 ∧ s' = zc σ 65 (pat f a n s t)) ∧ ∀ i, fdI t m = some i → r = 1 ∧ s' = zc σ 65 (pat f a n s (rvs n (swp t i (fdJ t i (n - 1))) (i + 1) (n - 1)))) := by
  intro m
  induction m with
  | zero =>
    intro hm
    refine vl_X4_goToNext_7 _ _ ⟨fun _ => ⟨fun q => absurd q ?_, fun _ => ⟨am_b0, fun _ => ⟨rfl, rfl⟩, fun i h => (by cases h)⟩⟩, fun q => absurd ?_ q⟩
    · rw [zc_ne (by decide), h2]; omega
    · rw [zc_ne (by decide), h2]; omega
  | succ m ih =>
    intro hm
    refine vl_X4_goToNext_7 _ _ ⟨fun q => absurd q ?_, fun _ => ?_⟩
    · rw [zc_ne (by decide), h2]; omega
    · rw [show a + ((m + 1 : Nat) : Int) - 1 = a + (m : Int) by omega, w32_id (x := a + (m : Int) + 1) (by omega) (by omega), w32_id (x := a + (m : Int) + -1) (by omega) (by omega), show a + (m : Int) + 1 = a + ((m + 1 : Nat) : Int) by omega, zc_eq, pat_at (by omega), pat_at (by omega), hmo m (m + 1) (by omega) (by omega), show zc σ 65 (pat f a n s t) 69 = σ 69 from zc_ne (by decide), h2, h3, w32_id (x := a + (n : Int) - 1) (by omega) (by omega)]
      refine ⟨by omega, by omega, fun e => ⟨fun _ => ?_, fun q => absurd (by omega) q⟩, fun e => ?_⟩
      · rw [fdI_s, if_pos e]
        have := lp_next61 (Ln := Ln) (d := d) (σ := σ) (f := f) ha hn h2 h3 ht hmo (i := m) (by omega) (n - 1) (by omega)
        rw [show a + ((n - 1 : Nat) : Int) = a + (n : Int) - 1 by omega] at this
        refine am_EI this (fun r s' h => ⟨fun h => (by cases h), fun i hi => ?_⟩)
        cases hi
        exact h
      · rw [fdI_s, if_neg e]
        have := ih (by omega)
        rw [show a + (m : Int) - 1 = a + (m : Int) + -1 by omega] at this
        exact this
/-- the class goes to the next order -/
theorem sp_goToNext (ha : 0 ≤ a) (hn : a + n ≤ 100) (h2 : σ 69 2 = a) (h3 : σ 69 3 = a + n) {t : List Nat} (h65 : σ 65 = pat f a n s t) (ht : t.length = n) (hmo : ∀ x y : Nat, x < n → y < n → (s (t.getD x 0) ≤ s (t.getD y 0) ↔ t.getD x 0 ≤ t.getD y 0)) :
    am_M Ln (d + 3) 28 [vR 69] σ (am_rI fun r s' => (goN n t = none → r = 0 ∧ s' = σ) ∧ ∀ t', goN n t = some t' → r = 1 ∧ s' = zc σ 65 (pat f a n s t')) := by
  have hz : zc σ 65 (pat f a n s t) = σ := by rw [← h65, zc_self]
  refine vm_X4_goToNext _ ?_
  rw [h3, w32_id (x := a + (n : Int) - 2) (by omega) (by omega)]
  by_cases h0 : n = 0
  · refine vl_X4_goToNext_7 _ _ ⟨fun _ => ⟨fun q => absurd q (by omega), fun _ => ⟨am_b0, fun _ => ⟨rfl, rfl⟩, fun t' h => ?_⟩⟩, fun q => absurd (by omega) q⟩
    rw [show goN n t = none by rw [h0]; rfl] at h
    cases h
  · have key := lp_next7 (Ln := Ln) (d := d) (σ := σ) (f := f) ha hn h2 h3 ht hmo (n - 1) (Nat.le_refl _)
    rw [show a + ((n - 1 : Nat) : Int) - 1 = a + (n : Int) - 2 by omega, hz] at key
    refine am_EI key ?_
    rintro r s' ⟨k1, k2⟩
    unfold goN
    cases hf : fdI t (n - 1) with
    | none => exact ⟨fun _ => k1 hf, fun t' h => (by cases h)⟩
    | some i => exact ⟨fun h => (by cases h), fun t' h => (by cases h; exact k2 i hf)⟩
end CS
