/-! the least, the most, and how many -/
def st1 (s : Int × Int × Nat) (v : Int) : Int × Int × Nat := match s.2.2 with
  | 0 => (v, v, 1)
  | c + 1 => (min s.1 v, max s.2.1 v, c + 2)
theorem st1_comm (s : Int × Int × Nat) (a b : Int) : st1 (st1 s a) b = st1 (st1 s b) a := by
  obtain ⟨l, m, c⟩ := s
  cases c with
  | zero =>
    show ((min a b, max a b, 2) : Int × Int × Nat) = (min b a, max b a, 2)
    rw [Int.min_comm a b, Int.max_comm a b]
  | succ c =>
    show ((min (min l a) b, max (max m a) b, c + 1 + 2) : Int × Int × Nat) = (min (min l b) a, max (max m b) a, c + 1 + 2)
    have h1 : min (min l a) b = min (min l b) a := by omega
    have h2 : max (max m a) b = max (max m b) a := by omega
    rw [h1, h2]
def stA (L : List Int) (s : Int × Int × Nat) : Int × Int × Nat := L.foldl st1 s
theorem stA_perm {L L' : List Int} (h : L.Perm L') : ∀ s, stA L s = stA L' s := by
  induction h with
  | nil => intro s; rfl
  | cons x _ ih => intro s; exact ih (st1 s x)
  | swap x y l => intro s; show stA l (st1 (st1 s y) x) = stA l (st1 (st1 s x) y); rw [st1_comm]
  | trans _ _ ih1 ih2 => intro s; rw [ih1, ih2]
section ST
variable {Ln : Int} {d : Nat}
/-- the class notes a sum -/
theorem sp_note {σ : AS} {v : Int} {c : Nat} (hc : σ 69 6 = c) (hb : c ≤ 1000) : am_M Ln (d + 1) 24 [vR 69, vI v] σ (am_rV fun s => Fr [] [(69, 4), (69, 5), (69, 6)] σ s ∧ (s 69 4, s 69 5, s 69 6) = (((st1 (σ 69 4, σ 69 5, c) v).1, (st1 (σ 69 4, σ 69 5, c) v).2.1, ((st1 (σ 69 4, σ 69 5, c) v).2.2 : Int)) : Int × Int × Int)) := by
  have key : ∀ a b e : Int, Fr [] [(69, 4), (69, 5), (69, 6)] σ (am_up (am_up (am_up σ 69 4 a) 69 5 b) 69 6 e) ∧ ((am_up (am_up (am_up σ 69 4 a) 69 5 b) 69 6 e) 69 4, (am_up (am_up (am_up σ 69 4 a) 69 5 b) 69 6 e) 69 5, (am_up (am_up (am_up σ 69 4 a) 69 5 b) 69 6 e) 69 6) = ((a, b, e) : Int × Int × Int) := by
    intro a b e
    refine ⟨Fr.up (Fr.up (Fr.up Fr.rf (Or.inr (by decide))) (Or.inr (by decide))) (Or.inr (by decide)), ?_⟩
    rw [am_up_eq, am_up_eq, am_up_eq, am_up_eq, am_up_eq, am_up_eq, am_up_eq]
    simp
  refine vm_X4_note _ _ ?_
  rw [hc, w32_id (x := (c : Int) + 1) (by omega) (by omega)]
  cases c with
  | zero =>
    refine ⟨fun _ => ⟨fun _ => ?_, fun h => absurd rfl h⟩, fun h => absurd rfl h⟩
    exact key v v _
  | succ c =>
    refine ⟨fun h => absurd h (by omega), fun _ => ⟨fun h => absurd h (by omega), fun _ => ?_⟩⟩
    have := key (min (σ 69 4) v) (max (σ 69 5) v) (((c + 1 : Nat) : Int) + 1)
    exact this
end ST
