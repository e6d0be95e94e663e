/-! two namings of the same lines give the same orders -/
def ordS (n : Nat) (s : Nat → Int) : List (List Int) := ((tups n n).filter ndB).map (fun t => t.map s)
theorem map_inj' {n : Nat} {s : Nat → Int} (hs : ∀ a b, a < n → b < n → s a = s b → a = b) : ∀ {t u : List Nat}, (∀ x ∈ t, x < n) → (∀ x ∈ u, x < n) → t.map s = u.map s → t = u
  | [], [], _, _, _ => rfl
  | [], b :: u, _, _, h => by cases h
  | a :: t, [], _, _, h => by cases h
  | a :: t, b :: u, ht, hu, h => by
    rw [List.map_cons, List.map_cons] at h
    obtain ⟨h1, h2⟩ := List.cons.inj h
    rw [hs a b (ht a List.mem_cons_self) (hu b List.mem_cons_self) h1, map_inj' hs (fun x hx => ht x (List.mem_cons_of_mem _ hx)) (fun x hx => hu x (List.mem_cons_of_mem _ hx)) h2]
theorem ordS_nd {n : Nat} {s : Nat → Int} (hs : ∀ a b, a < n → b < n → s a = s b → a = b) : (ordS n s).Nodup := by
  unfold ordS List.Nodup
  rw [List.pairwise_map]
  refine List.Pairwise.imp_of_mem ?_ (List.Pairwise.filter ndB (tups_nd (n := n) n))
  intro t u ht hu h e
  exact h (map_inj' hs (tups_mem.mp (List.mem_filter.mp ht).1).2 (tups_mem.mp (List.mem_filter.mp hu).1).2 e)
theorem ordS_sub {n : Nat} {s s' : Nat → Int} (hs : ∀ a b, a < n → b < n → s a = s b → a = b) (him : ∀ a, a < n → ∃ b, b < n ∧ s' b = s a) {L : List Int} (hL : L ∈ ordS n s) : L ∈ ordS n s' := by
  obtain ⟨t, ht, rfl⟩ := List.mem_map.mp hL
  obtain ⟨h1, h2⟩ := List.mem_filter.mp ht
  obtain ⟨h3, h4⟩ := tups_mem.mp h1
  have hτ : ∃ τ : Nat → Nat, ∀ a, a < n → τ a < n ∧ s' (τ a) = s a := by
    refine ⟨fun a => if h : a < n then Classical.choose (him a h) else 0, fun a ha => ?_⟩
    dsimp only
    rw [dif_pos ha]
    exact Classical.choose_spec (him a ha)
  obtain ⟨τ, hτ⟩ := hτ
  refine List.mem_map.mpr ⟨t.map τ, List.mem_filter.mpr ⟨tups_mem.mpr ⟨by rw [List.length_map, h3], fun x hx => ?_⟩, ?_⟩, ?_⟩
  · obtain ⟨a, ha, rfl⟩ := List.mem_map.mp hx
    exact (hτ a (h4 a ha)).1
  · rw [ndB_iff] at h2 ⊢
    unfold List.Nodup at h2 ⊢
    rw [List.pairwise_map]
    refine List.Pairwise.imp_of_mem ?_ h2
    intro a b ha hb h e
    exact h (hs a b (h4 a ha) (h4 b hb) (by rw [← (hτ a (h4 a ha)).2, ← (hτ b (h4 b hb)).2, e]))
  · rw [List.map_map]
    exact List.map_congr_left (fun a ha => (hτ a (h4 a ha)).2)
theorem ordS_perm {n : Nat} {s s' : Nat → Int} (hs : ∀ a b, a < n → b < n → s a = s b → a = b) (hs' : ∀ a b, a < n → b < n → s' a = s' b → a = b) (him : ∀ a, a < n → ∃ b, b < n ∧ s' b = s a) (him' : ∀ a, a < n → ∃ b, b < n ∧ s b = s' a) : (ordS n s).Perm (ordS n s') :=
  (List.perm_ext_iff_of_nodup (ordS_nd hs) (ordS_nd hs')).mpr (fun L => ⟨ordS_sub hs him, ordS_sub hs' him'⟩)
