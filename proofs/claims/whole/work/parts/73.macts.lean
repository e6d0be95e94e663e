/-! made good, and a line played, in the model -/
def mgood (σ : AS) (p o h s b : Int) (σ' : AS) : Prop := Fr [113, 114, 115, 117, 125] [] σ σ' ∧ (∀ p' : Int, 0 ≤ p' → p' < 10 → mp σ' p' = if p' = p then lay (lay (mp σ p) o b) h (s - b) else mp σ p') ∧ (∀ p' : Int, 0 ≤ p' → p' < 10 → 0 ≤ σ' 113 p') ∧ σ' 117 = fu (σ 117) (10 * p + o) (σ 117 (10 * p + o) - b) ∧ ∀ x : Int, 0 ≤ x → x < 10 → σ' 125 x = (if x = o then b else 0) + (if x = h then s - b else 0)
theorem sp_mgood {Ln : Int} {d : Nat} {C σ : AS} {i : Int} (hB : BK C) (hl : lv C i) (hk5 : C 8 i = 5) (hf : Fr wkX wkF C σ) (hr : ∀ p' : Int, 0 ≤ p' → p' < 10 → 0 ≤ σ 113 p' ∧ σ 113 p' ≤ 1000) (hnn : ∀ q ∈ mp σ (C 9 i), 0 ≤ q.2) (hps : psum (mp σ (C 9 i)) ≤ 100000000)
    (hL : 0 ≤ σ 117 (10 * C 9 i + C 10 i) ∧ σ 117 (10 * C 9 i + C 10 i) ≤ 100000000) (h125 : ∀ x : Int, 0 ≤ x → x < 10 → σ 125 x = 0) :
    am_M Ln (d + 2) 201 [vR 82, vI i] σ (am_rV (mgood σ (C 9 i) (C 10 i) (C 5 (C 9 i)) (C 11 i) (min (C 11 i) (σ 117 (10 * C 9 i + C 10 i))))) := by
  obtain ⟨l1, l2, l3, l4, l5, l6, l7⟩ := hl
  have lo := l5 (by omega)
  have lh := l7 _ l3.1 l3.2
  obtain ⟨⟨b84, b85, b86, b87, b88, b89, b90, b91, b92, b93, b94, b95⟩, -, -⟩ := hB
  have e87 : σ 87 = C 9 := by rw [hf.cell 87 (by decide), b87]
  have e88 : σ 88 = C 10 := by rw [hf.cell 88 (by decide), b88]
  have e89 : σ 89 = C 11 := by rw [hf.cell 89 (by decide), b89]
  have e84 : σ 84 = C 5 := by rw [hf.cell 84 (by decide), b84]
  obtain ⟨p, hp⟩ : ∃ p, p = C 9 i := ⟨_, rfl⟩
  obtain ⟨o, ho⟩ : ∃ o, o = C 10 i := ⟨_, rfl⟩
  obtain ⟨s, hs⟩ : ∃ s, s = C 11 i := ⟨_, rfl⟩
  obtain ⟨h, hh⟩ : ∃ h, h = C 5 (C 9 i) := ⟨_, rfl⟩
  have hL' : 0 ≤ σ 117 (10 * p + o) ∧ σ 117 (10 * p + o) ≤ 100000000 := by rw [hp, ho]; exact hL
  have ex : w32 (w32 (10 * p) + o) = 10 * p + o := by rw [w32_id (x := 10 * p) (by omega) (by omega), w32_id (by omega) (by omega)]
  have body : ∀ b : Int, b = min s (σ 117 (10 * p + o)) → ∃ T : Option AV → AS → Prop, am_M Ln (d + 1) 179 [vR 82, vI p, vI o, vI b] (am_up (am_up (am_up σ 117 (10 * p + o) (w32 (σ 117 (10 * p + o) - b))) 125 o (w32 (σ 125 o + b))) 125 h (w32 ((am_up (am_up σ 117 (10 * p + o) (w32 (σ 117 (10 * p + o) - b))) 125 o (w32 (σ 125 o + b))) 125 h + (w32 (s - b))))) T ∧ ∀ s1, T none s1 →
      (0 ≤ p ∧ p < 10) ∧ ((0 ≤ i ∧ i < 100) ∧ (∃ T : Option AV → AS → Prop, am_M Ln (d + 1) 179 [vR 82, vI p, vI (s1 84 p), vI (w32 (s1 89 i - b))] s1 T ∧ ∀ s2, T none s2 → am_rV (mgood σ p o h s (min s (σ 117 (10 * p + o)))) none s2)) := by
    intro b hb
    have g2 := h125 o (by omega) (by omega)
    have g3 : (am_up (am_up σ 117 (10 * p + o) (w32 (σ 117 (10 * p + o) - b))) 125 o (w32 (σ 125 o + b))) 125 h = if h = o then b else 0 := by
      rw [am_up_eq, g2, Int.zero_add, w32_id (x := b) (by omega) (by omega), am_up_ne (by decide)]
      split
      · rfl
      · exact h125 h (by omega) (by omega)
    rw [g3, g2, Int.zero_add, w32_id (x := b) (by omega) (by omega), w32_id (x := s - b) (by omega) (by omega), w32_id (x := σ 117 (10 * p + o) - b) (by omega) (by omega), w32_id (x := (if h = o then b else 0) + (s - b)) (by split <;> omega) (by split <;> omega)]
    obtain ⟨τ, hτ⟩ : ∃ τ, τ = am_up (am_up (am_up σ 117 (10 * p + o) (σ 117 (10 * p + o) - b)) 125 o b) 125 h ((if h = o then b else 0) + (s - b)) := ⟨_, rfl⟩
    rw [← hτ]
    have fτ : Fr [117, 125] [] σ τ := by rw [hτ]; exact Fr.up (Fr.up (Fr.up Fr.rf (Or.inl (by decide))) (Or.inl (by decide))) (Or.inl (by decide))
    have eτ : ∀ p', mp τ p' = mp σ p' := fun p' => mp_eq (fτ.cell 113 (by decide)) (fτ.cell 114 (by decide)) (fτ.cell 115 (by decide))
    have e113 : τ 113 = σ 113 := fτ.cell 113 (by decide)
    have z117 : τ 117 = fu (σ 117) (10 * p + o) (σ 117 (10 * p + o) - b) := by
      rw [hτ, am_up_ne (by decide), am_up_ne (by decide), up_zc, zc_eq]
    have z125 : ∀ x : Int, 0 ≤ x → x < 10 → τ 125 x = (if x = o then b else 0) + (if x = h then s - b else 0) := by
      intro x a c
      rw [hτ, am_up_eq, am_up_eq, am_up_ne (by decide), h125 x a c]
      by_cases e1 : x = h
      · rw [if_pos e1, if_pos e1, e1]
      · rw [if_neg e1, if_neg e1, Int.add_zero]
    refine cV (sp_lays (by omega) (fun p' a c => by rw [e113]; have := hr p' a c; omega) ⟨by omega, by omega⟩ (by rw [eτ, hp]; exact hnn) (by rw [eτ, hp]; omega)) ?_
    rintro s1 ⟨y1, y2, y3, y4⟩
    have z84 : s1 84 = C 5 := by rw [y1.cell 84 (by decide), fτ.cell 84 (by decide), e84]
    have z89 : s1 89 = C 11 := by rw [y1.cell 89 (by decide), fτ.cell 89 (by decide), e89]
    have exq : mp s1 p = lay (mp σ p) o b := by rw [y2 p (by omega) (by omega), if_pos rfl, eτ]
    rw [z84, z89, ← hs, w32_id (x := s - b) (by omega) (by omega)]
    have hnn' : ∀ q ∈ mp σ p, 0 ≤ q.2 := by rw [hp]; exact hnn
    refine ⟨⟨by omega, by omega⟩, l1, cV (sp_lays (by omega) (fun p' a c => by
      have h1 := y3 p' a c
      rw [e113] at h1
      have h2 := hr p' a c
      refine ⟨h1.1, ?_⟩
      have h3 := h1.2
      split at h3 <;> omega) ⟨by omega, by omega⟩ (by rw [exq]; exact lay_nn hnn') (by rw [exq, lay_psum (by omega), hp]; omega)) ?_⟩
    rintro s2 ⟨v1, v2, v3, v4⟩
    rw [← hb]
    refine ⟨(fτ.mo (by decide) (by decide)).tr ((y1.mo (by decide) (by decide)).tr (v1.mo (by decide) (by decide))), fun p' a c => ?_, fun p' a c => (v3 p' a c).1, by rw [v1.cell 117 (by decide), y1.cell 117 (by decide), z117], fun x a c => by rw [v1.cell 125 (by decide), y1.cell 125 (by decide), z125 x a c]⟩
    rw [v2 p' a c]
    by_cases ee : p' = p
    · rw [if_pos ee, if_pos ee, exq, hp, ← hh]
    · rw [if_neg ee, if_neg ee, y2 p' a c, if_neg ee, eτ]
  refine vm_X12_makesGood _ _ ?_
  rw [e87, e88, e89, e84, ← hp, ← ho, ← hs, ex]
  have hh' : C 5 p = h := by rw [hp, hh]
  rw [hh']
  have rp : 0 ≤ p ∧ p < 10 := by omega
  have ro : 0 ≤ o ∧ o < 10 := by omega
  have rh : 0 ≤ h ∧ h < 10 := by omega
  have rx : 0 ≤ 10 * p + o ∧ 10 * p + o < 100 := by omega
  refine ⟨l1, l1, rx, l1, fun hle => ⟨l1, rx, rx, l1, ro, ro, rp, rh, l1, rh, l1, body s ?_⟩, fun hle => ⟨rx, rx, rx, l1, ro, ro, rp, rh, l1, rh, l1, body _ ?_⟩⟩
  · omega
  · omega
theorem sp_wayOf {Ln : Int} {d : Nat} {C σ : AS} {F : FD} {m : MS} {k i t : Int} {n : Nat} {fo : Int → Int} (hB : BK C) (hl : lv C i) (htk : tkD (C 8 i) = true) (hf : Fr wkX wkF C σ) (hr : RM m σ) (hm : MI k m) (hmn : MN n m) (hF : ruM Ln n C F) (hfo : ∀ p : Int, 0 ≤ p → p < 10 → σ 121 p = fo p ∧ -1 ≤ fo p ∧ fo p ≤ 4) :
    am_M Ln (d + 6) 195 [vR 82, vI i, vI t] σ (am_rI fun r σ' => r = wayF C F t fo i (m.1 (C 9 i)) ∧ (0 ≤ r ∧ r ≤ 4) ∧ Fr [122, 123, 124] [] σ σ') := by
  have hl0 := hl
  obtain ⟨l1, l2, l3, l4, l5, l6, l7⟩ := hl
  have b87 := hB.1.2.2.2.1
  have b85 := hB.1.2.1
  have hw := hfo _ l3.1 l3.2
  refine vm_X12_wayOf _ _ _ ⟨l1, ?_⟩
  rw [hf.cell 87 (by decide), hf.cell 85 (by decide), b87, b85, hw.1]
  unfold wayF
  refine ⟨l3, fun e => ⟨l1, l3, cI (hF (d := d) σ m k 119 (C 6 (C 9 i)) i t (Or.inr (Or.inl rfl)) hf hr hm hmn hl0) ?_⟩, fun e => ⟨l1, l3, ?_⟩⟩
  · rintro r s1 ⟨r1, r2, r3, f1⟩
    rw [if_pos e, ← r1]
    refine ⟨fun q => ?_, fun q => ⟨⟨by omega, by omega⟩, ?_⟩⟩
    · rw [if_pos q]; exact ⟨rfl, ⟨by omega, by omega⟩, f1⟩
    · obtain ⟨c1, c2, c3⟩ := r3 rfl q
      have c4 : s1 102 r = C 31 r := by rw [f1.cell 102 (by decide), hf.cell 102 (by decide), c1]
      rw [if_neg q]
      exact ⟨c4, by rw [c4]; exact ⟨c2, c3⟩, f1⟩
  · rw [if_neg e]
    exact ⟨rfl, by omega, Fr.rf⟩
