/-! all tuples -/
theorem tups_mem {n : Nat} : ∀ {k : Nat} {t : List Nat}, t ∈ tups n k ↔ t.length = k ∧ ∀ x ∈ t, x < n
  | 0, t => by
    rw [tups, List.mem_singleton]
    constructor
    · rintro rfl
      exact ⟨rfl, fun x hx => (by cases hx)⟩
    · rintro ⟨h, -⟩
      exact List.length_eq_zero_iff.mp h
  | k + 1, t => by
    rw [tups, List.mem_flatMap]
    constructor
    · rintro ⟨a, ha, ht⟩
      obtain ⟨u, hu, rfl⟩ := List.mem_map.mp ht
      obtain ⟨h1, h2⟩ := tups_mem.mp hu
      refine ⟨by rw [List.length_cons, h1], fun x hx => ?_⟩
      rcases List.mem_cons.mp hx with rfl | hx
      · exact List.mem_range.mp ha
      · exact h2 x hx
    · rintro ⟨h1, h2⟩
      cases t with
      | nil => cases h1
      | cons a u =>
        rw [List.length_cons] at h1
        exact ⟨a, List.mem_range.mpr (h2 a List.mem_cons_self), List.mem_map.mpr ⟨u, tups_mem.mpr ⟨by omega, fun x hx => h2 x (List.mem_cons_of_mem _ hx)⟩, rfl⟩⟩
theorem ndB_iff : ∀ {t : List Nat}, ndB t = true ↔ t.Nodup
  | [] => ⟨fun _ => List.Pairwise.nil, fun _ => rfl⟩
  | a :: l => by
    rw [ndB, Bool.and_eq_true, ndB_iff, List.nodup_cons, List.all_eq_true]
    refine and_congr ⟨fun h hm => ?_, fun h x hx => ?_⟩ Iff.rfl
    · have := h a hm
      rw [show Nat.beq a a = true from Nat.beq_refl a] at this
      cases this
    · cases hb : Nat.beq a x with
      | true => exact absurd (by rw [Nat.eq_of_beq_eq_true hb]; exact hx) h
      | false => rfl
theorem tups_nd {n : Nat} : ∀ k : Nat, (tups n k).Nodup
  | 0 => List.pairwise_singleton _ _
  | k + 1 => by
    unfold List.Nodup
    rw [tups, List.pairwise_flatMap]
    refine ⟨fun a _ => List.pairwise_map.mpr ((tups_nd k).imp (fun h e => h (List.cons.inj e).2)), List.nodup_range.imp (fun h x hx y hy e => ?_)⟩
    obtain ⟨u, -, rfl⟩ := List.mem_map.mp hx
    obtain ⟨v, -, rfl⟩ := List.mem_map.mp hy
    exact h (List.cons.inj e).1
