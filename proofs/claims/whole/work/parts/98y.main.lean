/-! the law's loop; hR and hS are the pairs of rules and sure -/
theorem law_pair {Ln : Int} {mx mm : Nat} {ax am : List AV} {σ : AS} {NX : AS → Prop} {Z : AS → Prop} {K : Int → AS → Prop} (h : PR Ln mx ax mm am σ) (hn : ∀ s', s' 0 = σ 0 → (∃ n G, INV s' n G) → NX s') (k : ∀ r s, s 0 = σ 0 → (∃ T : Option AV → AS → Prop, am_M Ln 1000 mm am s T ∧ ∀ (r' : Int) s', T (some (vI r')) s' → (r = r' → NX s') ∧ (¬ (r = r') → Z s')) → K r s) : ∃ T : Option AV → AS → Prop, am_M Ln 1000 mx ax σ T ∧ ∀ (r : Int) s, T (some (vI r)) s → K r s := by
  refine cI h ?_
  rintro r s ⟨e0, h2⟩
  refine k r s e0 (cI h2 ?_)
  rintro r' s' ⟨e1, e2, e3⟩
  exact ⟨fun _ => hn s' e2 e3, fun z => absurd e1.symm z⟩
theorem lp_law {Ln : Int} (hL : 0 ≤ Ln ∧ Ln ≤ 4096) {x : Int → Int} (hx0 : ∀ j : Int, -2147483648 ≤ x j ∧ x j < 2147483648)
    (hR : ∀ (σ : AS) (n : Nat) (G : Int → GF), INV σ n G → ∀ a b c e : Int, PR Ln 101 [vR 1, vI a, vI b, vI c, vI e] 175 [vR 82, vI a, vI b, vI c, vI e] σ)
    (hS : ∀ (σ : AS) (n : Nat) (G : Int → GF), INV σ n G → ∀ a b c e : Int, PR Ln 110 [vR 1, vI a, vI b, vI c, vI e] 220 [vR 82, vI a, vI b, vI c, vI e] σ) : ∀ (m : Nat) (i : Int) (σ : AS), 0 ≤ i → Ln ≤ i + 8 * m → σ 0 = x → (∃ n G, INV σ n G) →
    am_E Ln 1000 0 18 [vR 0, vR 1, vR 82, vI i] [] σ (fun r _ => r = some (vI 1)) := by
  intro m
  induction m with
  | zero =>
    intro i σ h0 hi h0x hI
    refine vl_law_18 _ _ ?_
    rw [w32_id (x := Ln - 8) (by omega) (by omega)]
    exact ⟨fun _ => ⟨am_b1, rfl⟩, fun h => absurd (by omega) h⟩
  | succ m ih =>
    intro i σ h0 hi h0x hI0
    obtain ⟨n, G, hI⟩ := hI0
    have hx : ∀ j : Int, -2147483648 ≤ σ 0 j ∧ σ 0 j < 2147483648 := fun j => by rw [h0x]; exact hx0 j
    refine vl_law_18 _ _ ?_
    rw [w32_id (x := Ln - 8) (by omega) (by omega)]
    refine ⟨fun _ => ⟨am_b1, rfl⟩, fun hlt => ⟨⟨h0, by omega⟩, ?_⟩⟩
    have b1 : 0 ≤ i + 1 ∧ i + 1 < Ln := by omega
    have b2 : 0 ≤ i + 2 ∧ i + 2 < Ln := by omega
    have b3 : 0 ≤ i + 3 ∧ i + 3 < Ln := by omega
    have b4 : 0 ≤ i + 4 ∧ i + 4 < Ln := by omega
    have b5 : 0 ≤ i + 5 ∧ i + 5 < Ln := by omega
    have b6 : 0 ≤ i + 6 ∧ i + 6 < Ln := by omega
    have b7 : 0 ≤ i + 7 ∧ i + 7 < Ln := by omega
    rw [w32_id (x := i + 1) (by omega) (by omega), w32_id (x := i + 2) (by omega) (by omega), w32_id (x := i + 3) (by omega) (by omega), w32_id (x := i + 4) (by omega) (by omega), w32_id (x := i + 5) (by omega) (by omega), w32_id (x := i + 6) (by omega) (by omega), w32_id (x := i + 7) (by omega) (by omega), w32_id (x := i + 8) (by omega) (by omega)]
    have nx : ∀ s', s' 0 = σ 0 → (∃ n G, INV s' n G) → am_E Ln 1000 0 18 [vR 0, vR 1, vR 82, vI (i + 8)] [] s' (fun r _ => r = some (vI 1)) := fun s' e0 hI' => ih (i + 8) s' (by omega) (by omega) (e0.trans h0x) hI'
    refine ⟨?_, ?_, ?_, ?_, ?_, ?_, ?_, ?_, ?_, ?_, ?_, ?_, ?_, ?_, ?_, ?_, ?_, ?_, ?_, ?_, ?_, ?_, ?_, ?_, ?_, ?_, ?_, ?_, ?_, ?_, fun _ => nx σ rfl ⟨n, G, hI⟩, trivial⟩
    · intro _
      repeat' (first | apply And.intro b1 | apply And.intro b2 | apply And.intro b3 | apply And.intro b4 | apply And.intro b5 | apply And.intro b6 | apply And.intro b7)
      refine law_pair (Z := fun _ => am_b 0 ∧ (some (vI 0) : Option AV) = some (vI 1)) (pr_now hI _) nx (fun r s e0 hh => ?_)
      rw [e0]
      repeat' (first | apply And.intro b1 | apply And.intro b2 | apply And.intro b3 | apply And.intro b4 | apply And.intro b5 | apply And.intro b6 | apply And.intro b7)
      exact hh
    · intro _
      exact law_pair (Z := fun _ => am_b 0 ∧ (some (vI 0) : Option AV) = some (vI 1)) (pr_person hI) nx (fun r s e0 hh => hh)
    · intro _
      repeat' (first | apply And.intro b1 | apply And.intro b2 | apply And.intro b3 | apply And.intro b4 | apply And.intro b5 | apply And.intro b6 | apply And.intro b7)
      refine law_pair (Z := fun _ => am_b 0 ∧ (some (vI 0) : Option AV) = some (vI 1)) (pr_purse hI _ _) nx (fun r s e0 hh => ?_)
      rw [e0]
      repeat' (first | apply And.intro b1 | apply And.intro b2 | apply And.intro b3 | apply And.intro b4 | apply And.intro b5 | apply And.intro b6 | apply And.intro b7)
      exact hh
    · intro _
      exact law_pair (Z := fun _ => am_b 0 ∧ (some (vI 0) : Option AV) = some (vI 1)) (pr_thing hI) nx (fun r s e0 hh => hh)
    · intro _
      repeat' (first | apply And.intro b1 | apply And.intro b2 | apply And.intro b3 | apply And.intro b4 | apply And.intro b5 | apply And.intro b6 | apply And.intro b7)
      refine law_pair (Z := fun _ => am_b 0 ∧ (some (vI 0) : Option AV) = some (vI 1)) (pr_line hI _ _ _ _ _ _ _) nx (fun r s e0 hh => ?_)
      rw [e0]
      repeat' (first | apply And.intro b1 | apply And.intro b2 | apply And.intro b3 | apply And.intro b4 | apply And.intro b5 | apply And.intro b6 | apply And.intro b7)
      exact hh
    · intro _
      repeat' (first | apply And.intro b1 | apply And.intro b2 | apply And.intro b3 | apply And.intro b4 | apply And.intro b5 | apply And.intro b6 | apply And.intro b7)
      refine ⟨fun z => ?_, fun z => ?_⟩
      · repeat' (first | apply And.intro b1 | apply And.intro b2 | apply And.intro b3 | apply And.intro b4 | apply And.intro b5 | apply And.intro b6 | apply And.intro b7)
        refine law_pair (Z := fun _ => am_b 0 ∧ (some (vI 0) : Option AV) = some (vI 1)) (pr_move hI _ _ _ _ _ _ _) nx (fun r s e0 hh => ?_)
        rw [e0]
        repeat' (first | apply And.intro b1 | apply And.intro b2 | apply And.intro b3 | apply And.intro b4 | apply And.intro b5 | apply And.intro b6 | apply And.intro b7)
        refine ⟨fun _ => ?_, fun y => absurd z y⟩
        repeat' (first | apply And.intro b1 | apply And.intro b2 | apply And.intro b3 | apply And.intro b4 | apply And.intro b5 | apply And.intro b6 | apply And.intro b7)
        exact hh
      · repeat' (first | apply And.intro b1 | apply And.intro b2 | apply And.intro b3 | apply And.intro b4 | apply And.intro b5 | apply And.intro b6 | apply And.intro b7)
        refine law_pair (Z := fun _ => am_b 0 ∧ (some (vI 0) : Option AV) = some (vI 1)) (pr_move hI _ _ _ _ _ _ _) nx (fun r s e0 hh => ?_)
        rw [e0]
        repeat' (first | apply And.intro b1 | apply And.intro b2 | apply And.intro b3 | apply And.intro b4 | apply And.intro b5 | apply And.intro b6 | apply And.intro b7)
        refine ⟨fun y => absurd y z, fun _ => ?_⟩
        repeat' (first | apply And.intro b1 | apply And.intro b2 | apply And.intro b3 | apply And.intro b4 | apply And.intro b5 | apply And.intro b6 | apply And.intro b7)
        exact hh
    · intro _
      repeat' (first | apply And.intro b1 | apply And.intro b2 | apply And.intro b3 | apply And.intro b4 | apply And.intro b5 | apply And.intro b6 | apply And.intro b7)
      refine ⟨fun z => ?_, fun z => ?_⟩
      · repeat' (first | apply And.intro b1 | apply And.intro b2 | apply And.intro b3 | apply And.intro b4 | apply And.intro b5 | apply And.intro b6 | apply And.intro b7)
        refine law_pair (Z := fun _ => am_b 0 ∧ (some (vI 0) : Option AV) = some (vI 1)) (pr_deal hI _ _ _ _ _ _ _ (Or.inl rfl)) nx (fun r s e0 hh => ?_)
        rw [e0]
        repeat' (first | apply And.intro b1 | apply And.intro b2 | apply And.intro b3 | apply And.intro b4 | apply And.intro b5 | apply And.intro b6 | apply And.intro b7)
        refine ⟨fun _ => ?_, fun y => absurd z y⟩
        repeat' (first | apply And.intro b1 | apply And.intro b2 | apply And.intro b3 | apply And.intro b4 | apply And.intro b5 | apply And.intro b6 | apply And.intro b7)
        exact hh
      · repeat' (first | apply And.intro b1 | apply And.intro b2 | apply And.intro b3 | apply And.intro b4 | apply And.intro b5 | apply And.intro b6 | apply And.intro b7)
        refine law_pair (Z := fun _ => am_b 0 ∧ (some (vI 0) : Option AV) = some (vI 1)) (pr_deal hI _ _ _ _ _ _ _ (Or.inr rfl)) nx (fun r s e0 hh => ?_)
        rw [e0]
        repeat' (first | apply And.intro b1 | apply And.intro b2 | apply And.intro b3 | apply And.intro b4 | apply And.intro b5 | apply And.intro b6 | apply And.intro b7)
        refine ⟨fun y => absurd y z, fun _ => ?_⟩
        repeat' (first | apply And.intro b1 | apply And.intro b2 | apply And.intro b3 | apply And.intro b4 | apply And.intro b5 | apply And.intro b6 | apply And.intro b7)
        exact hh
    · intro _
      repeat' (first | apply And.intro b1 | apply And.intro b2 | apply And.intro b3 | apply And.intro b4 | apply And.intro b5 | apply And.intro b6 | apply And.intro b7)
      refine law_pair (Z := fun _ => am_b 0 ∧ (some (vI 0) : Option AV) = some (vI 1)) (pr_strike hI _) nx (fun r s e0 hh => ?_)
      rw [e0]
      repeat' (first | apply And.intro b1 | apply And.intro b2 | apply And.intro b3 | apply And.intro b4 | apply And.intro b5 | apply And.intro b6 | apply And.intro b7)
      exact hh
    · intro _
      repeat' (first | apply And.intro b1 | apply And.intro b2 | apply And.intro b3 | apply And.intro b4 | apply And.intro b5 | apply And.intro b6 | apply And.intro b7)
      refine law_pair (Z := fun _ => am_b 0 ∧ (some (vI 0) : Option AV) = some (vI 1)) (pr_feed hI _ _ _ _ _) nx (fun r s e0 hh => ?_)
      rw [e0]
      repeat' (first | apply And.intro b1 | apply And.intro b2 | apply And.intro b3 | apply And.intro b4 | apply And.intro b5 | apply And.intro b6 | apply And.intro b7)
      exact hh
    · intro _
      repeat' (first | apply And.intro b1 | apply And.intro b2 | apply And.intro b3 | apply And.intro b4 | apply And.intro b5 | apply And.intro b6 | apply And.intro b7)
      refine law_pair (Z := fun _ => am_b 0 ∧ (some (vI 0) : Option AV) = some (vI 1)) (hR σ n G hI _ _ _ _) nx (fun r s e0 hh => ?_)
      rw [e0]
      repeat' (first | apply And.intro b1 | apply And.intro b2 | apply And.intro b3 | apply And.intro b4 | apply And.intro b5 | apply And.intro b6 | apply And.intro b7)
      exact hh
    · intro _
      repeat' (first | apply And.intro b1 | apply And.intro b2 | apply And.intro b3 | apply And.intro b4 | apply And.intro b5 | apply And.intro b6 | apply And.intro b7)
      refine law_pair (Z := fun _ => am_b 0 ∧ (some (vI 0) : Option AV) = some (vI 1)) (pr_knows hI _ _ _) nx (fun r s e0 hh => ?_)
      rw [e0]
      repeat' (first | apply And.intro b1 | apply And.intro b2 | apply And.intro b3 | apply And.intro b4 | apply And.intro b5 | apply And.intro b6 | apply And.intro b7)
      exact hh
    · intro _
      repeat' (first | apply And.intro b1 | apply And.intro b2 | apply And.intro b3 | apply And.intro b4 | apply And.intro b5 | apply And.intro b6 | apply And.intro b7)
      refine law_pair (Z := fun _ => am_b 0 ∧ (some (vI 0) : Option AV) = some (vI 1)) (pr_left hI _ _ _ _) nx (fun r s e0 hh => ?_)
      rw [e0]
      repeat' (first | apply And.intro b1 | apply And.intro b2 | apply And.intro b3 | apply And.intro b4 | apply And.intro b5 | apply And.intro b6 | apply And.intro b7)
      exact hh
    · intro _
      repeat' (first | apply And.intro b1 | apply And.intro b2 | apply And.intro b3 | apply And.intro b4 | apply And.intro b5 | apply And.intro b6 | apply And.intro b7)
      refine law_pair (Z := fun _ => am_b 0 ∧ (some (vI 0) : Option AV) = some (vI 1)) (pr_share hI _ _ _ _) nx (fun r s e0 hh => ?_)
      rw [e0]
      repeat' (first | apply And.intro b1 | apply And.intro b2 | apply And.intro b3 | apply And.intro b4 | apply And.intro b5 | apply And.intro b6 | apply And.intro b7)
      exact hh
    · intro _
      repeat' (first | apply And.intro b1 | apply And.intro b2 | apply And.intro b3 | apply And.intro b4 | apply And.intro b5 | apply And.intro b6 | apply And.intro b7)
      refine law_pair (Z := fun _ => am_b 0 ∧ (some (vI 0) : Option AV) = some (vI 1)) (pr_lost hI _ _ _ _) nx (fun r s e0 hh => ?_)
      rw [e0]
      repeat' (first | apply And.intro b1 | apply And.intro b2 | apply And.intro b3 | apply And.intro b4 | apply And.intro b5 | apply And.intro b6 | apply And.intro b7)
      exact hh
    · intro _
      repeat' (first | apply And.intro b1 | apply And.intro b2 | apply And.intro b3 | apply And.intro b4 | apply And.intro b5 | apply And.intro b6 | apply And.intro b7)
      refine law_pair (Z := fun _ => am_b 0 ∧ (some (vI 0) : Option AV) = some (vI 1)) (pr_part hI _ _ _ (hx _).2) nx (fun r s e0 hh => ?_)
      rw [e0]
      repeat' (first | apply And.intro b1 | apply And.intro b2 | apply And.intro b3 | apply And.intro b4 | apply And.intro b5 | apply And.intro b6 | apply And.intro b7)
      exact hh
    · intro _
      repeat' (first | apply And.intro b1 | apply And.intro b2 | apply And.intro b3 | apply And.intro b4 | apply And.intro b5 | apply And.intro b6 | apply And.intro b7)
      refine law_pair (Z := fun _ => am_b 0 ∧ (some (vI 0) : Option AV) = some (vI 1)) (pr_took hI _ _ _) nx (fun r s e0 hh => ?_)
      rw [e0]
      repeat' (first | apply And.intro b1 | apply And.intro b2 | apply And.intro b3 | apply And.intro b4 | apply And.intro b5 | apply And.intro b6 | apply And.intro b7)
      exact hh
    · intro _
      repeat' (first | apply And.intro b1 | apply And.intro b2 | apply And.intro b3 | apply And.intro b4 | apply And.intro b5 | apply And.intro b6 | apply And.intro b7)
      refine law_pair (Z := fun _ => am_b 0 ∧ (some (vI 0) : Option AV) = some (vI 1)) (pr_way hI _ _) nx (fun r s e0 hh => ?_)
      rw [e0]
      repeat' (first | apply And.intro b1 | apply And.intro b2 | apply And.intro b3 | apply And.intro b4 | apply And.intro b5 | apply And.intro b6 | apply And.intro b7)
      exact hh
    · intro _
      repeat' (first | apply And.intro b1 | apply And.intro b2 | apply And.intro b3 | apply And.intro b4 | apply And.intro b5 | apply And.intro b6 | apply And.intro b7)
      refine law_pair (Z := fun _ => am_b 0 ∧ (some (vI 0) : Option AV) = some (vI 1)) (pr_fails hI _) nx (fun r s e0 hh => ?_)
      rw [e0]
      repeat' (first | apply And.intro b1 | apply And.intro b2 | apply And.intro b3 | apply And.intro b4 | apply And.intro b5 | apply And.intro b6 | apply And.intro b7)
      exact hh
    · intro _
      repeat' (first | apply And.intro b1 | apply And.intro b2 | apply And.intro b3 | apply And.intro b4 | apply And.intro b5 | apply And.intro b6 | apply And.intro b7)
      refine law_pair (Z := fun _ => am_b 0 ∧ (some (vI 0) : Option AV) = some (vI 1)) (hS σ n G hI _ _ _ _) nx (fun r s e0 hh => ?_)
      rw [e0]
      repeat' (first | apply And.intro b1 | apply And.intro b2 | apply And.intro b3 | apply And.intro b4 | apply And.intro b5 | apply And.intro b6 | apply And.intro b7)
      exact hh
    · intro _
      repeat' (first | apply And.intro b1 | apply And.intro b2 | apply And.intro b3 | apply And.intro b4 | apply And.intro b5 | apply And.intro b6 | apply And.intro b7)
      refine law_pair (Z := fun _ => am_b 0 ∧ (some (vI 0) : Option AV) = some (vI 1)) (pr_beside hI _ _ _ _) nx (fun r s e0 hh => ?_)
      rw [e0]
      repeat' (first | apply And.intro b1 | apply And.intro b2 | apply And.intro b3 | apply And.intro b4 | apply And.intro b5 | apply And.intro b6 | apply And.intro b7)
      exact hh
    · intro _
      repeat' (first | apply And.intro b1 | apply And.intro b2 | apply And.intro b3 | apply And.intro b4 | apply And.intro b5 | apply And.intro b6 | apply And.intro b7)
      refine law_pair (Z := fun _ => am_b 0 ∧ (some (vI 0) : Option AV) = some (vI 1)) (pr_choose hI _ _) nx (fun r s e0 hh => ?_)
      rw [e0]
      repeat' (first | apply And.intro b1 | apply And.intro b2 | apply And.intro b3 | apply And.intro b4 | apply And.intro b5 | apply And.intro b6 | apply And.intro b7)
      exact hh
    · intro _
      repeat' (first | apply And.intro b1 | apply And.intro b2 | apply And.intro b3 | apply And.intro b4 | apply And.intro b5 | apply And.intro b6 | apply And.intro b7)
      refine law_pair (Z := fun _ => am_b 0 ∧ (some (vI 0) : Option AV) = some (vI 1)) (pr_bar hI _ _ _ _) nx (fun r s e0 hh => ?_)
      rw [e0]
      repeat' (first | apply And.intro b1 | apply And.intro b2 | apply And.intro b3 | apply And.intro b4 | apply And.intro b5 | apply And.intro b6 | apply And.intro b7)
      exact hh
    · intro _
      repeat' (first | apply And.intro b1 | apply And.intro b2 | apply And.intro b3 | apply And.intro b4 | apply And.intro b5 | apply And.intro b6 | apply And.intro b7)
      refine law_pair (Z := fun _ => am_b 0 ∧ (some (vI 0) : Option AV) = some (vI 1)) (pr_best hI _) nx (fun r s e0 hh => ?_)
      rw [e0]
      repeat' (first | apply And.intro b1 | apply And.intro b2 | apply And.intro b3 | apply And.intro b4 | apply And.intro b5 | apply And.intro b6 | apply And.intro b7)
      exact hh
    · intro _
      repeat' (first | apply And.intro b1 | apply And.intro b2 | apply And.intro b3 | apply And.intro b4 | apply And.intro b5 | apply And.intro b6 | apply And.intro b7)
      refine law_pair (Z := fun _ => am_b 0 ∧ (some (vI 0) : Option AV) = some (vI 1)) (pr_chosen hI _ _) nx (fun r s e0 hh => ?_)
      rw [e0]
      repeat' (first | apply And.intro b1 | apply And.intro b2 | apply And.intro b3 | apply And.intro b4 | apply And.intro b5 | apply And.intro b6 | apply And.intro b7)
      exact hh
    · intro _
      repeat' (first | apply And.intro b1 | apply And.intro b2 | apply And.intro b3 | apply And.intro b4 | apply And.intro b5 | apply And.intro b6 | apply And.intro b7)
      refine law_pair (Z := fun _ => am_b 0 ∧ (some (vI 0) : Option AV) = some (vI 1)) (pr_judge hI _ _) nx (fun r s e0 hh => ?_)
      rw [e0]
      repeat' (first | apply And.intro b1 | apply And.intro b2 | apply And.intro b3 | apply And.intro b4 | apply And.intro b5 | apply And.intro b6 | apply And.intro b7)
      exact hh
    · intro _
      repeat' (first | apply And.intro b1 | apply And.intro b2 | apply And.intro b3 | apply And.intro b4 | apply And.intro b5 | apply And.intro b6 | apply And.intro b7)
      refine law_pair (Z := fun _ => am_b 0 ∧ (some (vI 0) : Option AV) = some (vI 1)) (pr_debt hI _ _ _ _) nx (fun r s e0 hh => ?_)
      rw [e0]
      repeat' (first | apply And.intro b1 | apply And.intro b2 | apply And.intro b3 | apply And.intro b4 | apply And.intro b5 | apply And.intro b6 | apply And.intro b7)
      exact hh
    · intro _
      repeat' (first | apply And.intro b1 | apply And.intro b2 | apply And.intro b3 | apply And.intro b4 | apply And.intro b5 | apply And.intro b6 | apply And.intro b7)
      refine law_pair (Z := fun _ => am_b 0 ∧ (some (vI 0) : Option AV) = some (vI 1)) (pr_paid hI _) nx (fun r s e0 hh => ?_)
      rw [e0]
      repeat' (first | apply And.intro b1 | apply And.intro b2 | apply And.intro b3 | apply And.intro b4 | apply And.intro b5 | apply And.intro b6 | apply And.intro b7)
      exact hh
    · intro _
      repeat' (first | apply And.intro b1 | apply And.intro b2 | apply And.intro b3 | apply And.intro b4 | apply And.intro b5 | apply And.intro b6 | apply And.intro b7)
      refine law_pair (Z := fun _ => am_b 0 ∧ (some (vI 0) : Option AV) = some (vI 1)) (pr_check hI _) nx (fun r s e0 hh => ?_)
      rw [e0]
      repeat' (first | apply And.intro b1 | apply And.intro b2 | apply And.intro b3 | apply And.intro b4 | apply And.intro b5 | apply And.intro b6 | apply And.intro b7)
      exact hh
    · intro _
      repeat' (first | apply And.intro b1 | apply And.intro b2 | apply And.intro b3 | apply And.intro b4 | apply And.intro b5 | apply And.intro b6 | apply And.intro b7)
      refine law_pair (Z := fun _ => am_b 0 ∧ (some (vI 0) : Option AV) = some (vI 1)) (pr_look hI _ _) nx (fun r s e0 hh => ?_)
      rw [e0]
      repeat' (first | apply And.intro b1 | apply And.intro b2 | apply And.intro b3 | apply And.intro b4 | apply And.intro b5 | apply And.intro b6 | apply And.intro b7)
      exact hh
    · intro _
      repeat' (first | apply And.intro b1 | apply And.intro b2 | apply And.intro b3 | apply And.intro b4 | apply And.intro b5 | apply And.intro b6 | apply And.intro b7)
      refine law_pair (Z := fun _ => am_b 0 ∧ (some (vI 0) : Option AV) = some (vI 1)) (pr_count hI _ (hx _)) nx (fun r s e0 hh => ?_)
      rw [e0]
      repeat' (first | apply And.intro b1 | apply And.intro b2 | apply And.intro b3 | apply And.intro b4 | apply And.intro b5 | apply And.intro b6 | apply And.intro b7)
      exact hh
