/-! the pure level: stores, numbers, lists over a range -/
def zc (σ : AS) (c : Nat) (f : Int → Int) : AS := fun c' => if c' = c then f else σ c'
theorem zc_app (σ : AS) (c c' : Nat) (f : Int → Int) : zc σ c f c' = if c' = c then f else σ c' := rfl
theorem zc_eq {σ : AS} {c : Nat} {f : Int → Int} : zc σ c f c = f := if_pos rfl
theorem zc_ne {σ : AS} {c c' : Nat} {f : Int → Int} (h : c' ≠ c) : zc σ c f c' = σ c' := if_neg h
theorem zc_self (σ : AS) (c : Nat) : zc σ c (σ c) = σ := by
  funext c'
  unfold zc
  split
  · rename_i h; rw [h]
  · rfl
theorem zc_zc {σ : AS} {c : Nat} {f g : Int → Int} : zc (zc σ c f) c g = zc σ c g := by
  funext c'
  unfold zc
  split <;> rfl
theorem zc_comm {σ : AS} {a b : Nat} {f g : Int → Int} (h : a ≠ b) : zc (zc σ a f) b g = zc (zc σ b g) a f := by
  funext c'
  unfold zc
  by_cases h1 : c' = b
  · rw [if_pos h1, if_neg (by rw [h1]; exact fun q => h q.symm), if_pos h1]
  · rw [if_neg h1]
    by_cases h2 : c' = a
    · rw [if_pos h2, if_pos h2]
    · rw [if_neg h2, if_neg h2, if_neg h1]
/-- a function, at one place another -/
def fu (f : Int → Int) (i v : Int) : Int → Int := fun j => if j = i then v else f j
theorem fu_app (f : Int → Int) (i v j : Int) : fu f i v j = if j = i then v else f j := rfl
theorem fu_eq {f : Int → Int} {i v : Int} : fu f i v i = v := if_pos rfl
theorem fu_ne {f : Int → Int} {i v j : Int} (h : j ≠ i) : fu f i v j = f j := if_neg h
theorem up_zc (σ : AS) (c : Nat) (i v : Int) : am_up σ c i v = zc σ c (fu (σ c) i v) := by
  funext c'
  by_cases h : c' = c
  · subst h
    rw [zc_eq]
    funext j
    rw [am_up_eq]
    rfl
  · rw [am_up_ne h, zc_ne h]
theorem up_zcs {σ : AS} {c : Nat} {f : Int → Int} {i v : Int} : am_up (zc σ c f) c i v = zc σ c (fu f i v) := by
  rw [up_zc, zc_eq, zc_zc]
theorem w32_id {x : Int} (h : -2147483648 ≤ x) (h2 : x < 2147483648) : w32 x = x := by unfold w32; omega
theorem w64_id {x : Int} (h : -9223372036854775808 ≤ x) (h2 : x < 9223372036854775808) : w64 x = x := by unfold w64; omega
theorem lCmp_lt {x y : Int} : lCmp x y < 0 ↔ x < y := by unfold lCmp; split <;> (try split) <;> omega
theorem lCmp_ge {x y : Int} : 0 ≤ lCmp x y ↔ y ≤ x := by unfold lCmp; split <;> (try split) <;> omega
theorem lCmp_gt {x y : Int} : 0 < lCmp x y ↔ y < x := by unfold lCmp; split <;> (try split) <;> omega
theorem lCmp_le {x y : Int} : lCmp x y ≤ 0 ↔ x ≤ y := by unfold lCmp; split <;> (try split) <;> omega
theorem lCmp_eq {x y : Int} : lCmp x y = 0 ↔ x = y := by unfold lCmp; split <;> (try split) <;> omega
theorem tdiv_nn {x y : Int} (h : 0 ≤ x) : Int.tdiv x y = x / y := Int.tdiv_eq_ediv_of_nonneg h
theorem tmod_nn {x y : Int} (h : 0 ≤ x) : Int.tmod x y = x % y := Int.tmod_eq_emod_of_nonneg h
theorem am_b0 : am_b 0 := Or.inl rfl
theorem am_b1 : am_b 1 := Or.inr rfl
theorem am_b_if {c : Prop} [Decidable c] : am_b (if c then 1 else 0) := by split; exact am_b1; exact am_b0
/-- a call whose callee's spec is known -/
theorem cI {Ln : Int} {d m : Nat} {as : List AV} {σ : AS} {P : Int → AS → Prop} {K : Int → AS → Prop} (h : am_M Ln d m as σ (am_rI P)) (k : ∀ r s, P r s → K r s) : ∃ T : Option AV → AS → Prop, am_M Ln d m as σ T ∧ ∀ (r : Int) s, T (some (vI r)) s → K r s := ⟨_, h, fun r s q => k r s q⟩
theorem cV {Ln : Int} {d m : Nat} {as : List AV} {σ : AS} {P : AS → Prop} {K : AS → Prop} (h : am_M Ln d m as σ (am_rV P)) (k : ∀ s, P s → K s) : ∃ T : Option AV → AS → Prop, am_M Ln d m as σ T ∧ ∀ s, T none s → K s := ⟨_, h, fun s q => k s q⟩
theorem cL {Ln : Int} {d m : Nat} {as : List AV} {σ : AS} {P : Int → AS → Prop} {K : Int → AS → Prop} (h : am_M Ln d m as σ (am_rL P)) (k : ∀ r s, P r s → K r s) : ∃ T : Option AV → AS → Prop, am_M Ln d m as σ T ∧ ∀ (r : Int) s, T (some (vL r)) s → K r s := ⟨_, h, fun r s q => k r s q⟩
theorem am_MI {Ln : Int} {d m : Nat} {as : List AV} {σ : AS} {P P' : Int → AS → Prop} (h : am_M Ln d m as σ (am_rI P)) (k : ∀ r s, P r s → P' r s) : am_M Ln d m as σ (am_rI P') := am_M_post h (fun v s q => by
  match v, q with
  | some (.inl x), q => exact k x s q)
theorem am_MV {Ln : Int} {d m : Nat} {as : List AV} {σ : AS} {P P' : AS → Prop} (h : am_M Ln d m as σ (am_rV P)) (k : ∀ s, P s → P' s) : am_M Ln d m as σ (am_rV P') := am_M_post h (fun v s q => by
  match v, q with
  | none, q => exact k s q)
/-- f 0, f 1, .., f (n - 1) -/
def rl {α : Type} (n : Int) (f : Int → α) : List α := (List.range n.toNat).map (fun k : Nat => f (k : Int))
section RL
variable {α β : Type}
theorem rl_len (n : Int) (f : Int → α) : (rl n f).length = n.toNat := by simp [rl]
theorem rl_0 (f : Int → α) : rl 0 f = [] := rfl
theorem rl_neg {n : Int} (f : Int → α) (h : n ≤ 0) : rl n f = [] := by
  unfold rl
  rw [show n.toNat = 0 by omega]
  rfl
theorem rl_succ {n : Int} (f : Int → α) (h : 0 ≤ n) : rl (n + 1) f = rl n f ++ [f n] := by
  unfold rl
  rw [show (n + 1).toNat = n.toNat + 1 by omega, List.range_succ, List.map_append, List.map_cons, List.map_nil, show ((n.toNat : Nat) : Int) = n by omega]
theorem rl_get {n i : Int} (f : Int → α) (h : 0 ≤ i) (h2 : i < n) : (rl n f)[i.toNat]? = some (f i) := by
  unfold rl
  rw [List.getElem?_map, List.getElem?_range (by omega)]
  show some (f ((i.toNat : Nat) : Int)) = _
  rw [show ((i.toNat : Nat) : Int) = i by omega]
theorem rl_mem {n : Int} {f : Int → α} {x : α} : x ∈ rl n f ↔ ∃ i, 0 ≤ i ∧ i < n ∧ f i = x := by
  unfold rl
  rw [List.mem_map]
  constructor
  · rintro ⟨k, h1, h2⟩
    rw [List.mem_range] at h1
    exact ⟨k, by omega, by omega, h2⟩
  · rintro ⟨i, h1, h2, h3⟩
    exact ⟨i.toNat, List.mem_range.mpr (by omega), by rw [show ((i.toNat : Nat) : Int) = i by omega]; exact h3⟩
theorem rl_congr {n : Int} {f g : Int → α} (h : ∀ i, 0 ≤ i → i < n → f i = g i) : rl n f = rl n g := by
  unfold rl
  apply List.map_congr_left
  intro k hk
  rw [List.mem_range] at hk
  exact h k (by omega) (by omega)
theorem rl_map {n : Int} {f : Int → α} {g : α → β} : (rl n f).map g = rl n (fun i => g (f i)) := by
  unfold rl
  rw [List.map_map]
  rfl
theorem rl_split {n a : Int} (f : Int → α) (h0 : 0 ≤ a) (h : a ≤ n) : rl n f = rl a f ++ rl (n - a) (fun i => f (a + i)) := by
  obtain ⟨k, hk⟩ : ∃ k : Nat, n = a + k := ⟨(n - a).toNat, by omega⟩
  subst hk
  induction k with
  | zero => rw [show a + ((0 : Nat) : Int) = a by omega, show a - a = 0 by omega, rl_0, List.append_nil]
  | succ k ih =>
    rw [show a + ((k + 1 : Nat) : Int) = a + k + 1 by omega, rl_succ f (by omega), ih (by omega), show a + (k : Int) + 1 - a = (a + k - a) + 1 by omega, rl_succ _ (by omega), ← List.append_assoc, show a + (a + (k : Int) - a) = a + k by omega]
theorem rl_cons {n : Int} (f : Int → α) (h : 0 < n) : rl n f = f 0 :: rl (n - 1) (fun i => f (i + 1)) := by
  rw [rl_split f (a := 1) (by omega) (by omega)]
  have : rl 1 f = [f 0] := rfl
  rw [this, List.singleton_append]
  congr 1
  exact rl_congr (fun i _ _ => by rw [Int.add_comm])
/-- a list over a range, split at a place -/
theorem rl_at {n a : Int} (f : Int → α) (h0 : 0 ≤ a) (h : a < n) : rl n f = rl a f ++ f a :: rl (n - a - 1) (fun i => f (a + 1 + i)) := by
  rw [rl_split f h0 (by omega : a ≤ n), rl_cons _ (by omega : 0 < n - a)]
  congr 1
  rw [show a + 0 = a by omega]
  congr 1
  exact rl_congr (fun i _ _ => by rw [show a + (i + 1) = a + 1 + i by omega])
end RL
