/-! the model's rows of parts -/
def mp (σ : AS) (p : Int) : MP := rl (σ 113 p) (fun j => (σ 114 (1400 * p + j), σ 115 (1400 * p + j)))
def mt (σ : AS) : MP := rl (σ 82 54) (fun j => (σ 118 j, σ 119 j))
theorem rl_last {α : Type} {n : Int} {f : Int → α} (h : 0 < n) : rl n f = rl (n - 1) f ++ [f (n - 1)] := by
  have := rl_succ f (by omega : 0 ≤ n - 1)
  rwa [show n - 1 + 1 = n by omega] at this
theorem mp_len {σ : AS} {p : Int} (h : 0 ≤ σ 113 p) : ((mp σ p).length : Int) = σ 113 p := by
  unfold mp
  rw [rl_len]
  omega
def mlay (σ : AS) (p o s : Int) (σ' : AS) : Prop := Fr [113, 114, 115] [] σ σ' ∧ (∀ p' : Int, 0 ≤ p' → p' < 10 → mp σ' p' = if p' = p then lay (mp σ p) o s else mp σ p') ∧ (∀ p' : Int, 0 ≤ p' → p' < 10 → 0 ≤ σ' 113 p' ∧ σ' 113 p' ≤ σ 113 p' + (if p' = p then 1 else 0)) ∧
  ∀ x : Int, (x < 1400 * p ∨ 1400 * p + σ 113 p < x) → σ' 114 x = σ 114 x ∧ σ' 115 x = σ 115 x
set_option maxHeartbeats 1000000 in
theorem sp_lays {Ln : Int} {d : Nat} {σ : AS} {p o s : Int} (hp : 0 ≤ p ∧ p < 10) (hr : ∀ p' : Int, 0 ≤ p' → p' < 10 → 0 ≤ σ 113 p' ∧ σ 113 p' ≤ 1390) (hs : 0 ≤ s ∧ s ≤ 1000000000) (hnn : ∀ q ∈ mp σ p, 0 ≤ q.2) (hB : psum (mp σ p) ≤ 1000000000) :
    am_M Ln (d + 1) 179 [vR 82, vI p, vI o, vI s] σ (am_rV (mlay σ p o s)) := by
  have hpr := hr p hp.1 hp.2
  have e1 : w32 (w32 (w32 (1400 * p) + (σ 113 p)) - 1) = 1400 * p + σ 113 p - 1 := by
    rw [w32_id (x := 1400 * p) (by omega) (by omega), w32_id (x := 1400 * p + σ 113 p) (by omega) (by omega), w32_id (by omega) (by omega)]
  have e2 : w32 (w32 (w32 (w32 (1400 * p) + (σ 113 p)) - 1) + 1) = 1400 * p + σ 113 p := by
    rw [e1, w32_id (by omega) (by omega)]; omega
  have new : 0 < s → (σ 113 p ≤ 0 ∨ σ 114 (1400 * p + σ 113 p - 1) ≠ o) → mlay σ p o s (am_up (am_up (am_up σ 114 (1400 * p + σ 113 p) o) 115 (1400 * p + σ 113 p) s) 113 p (σ 113 p + 1)) := by
    intro h0 h1
    obtain ⟨τ, hτ⟩ : ∃ τ, τ = am_up (am_up (am_up σ 114 (1400 * p + σ 113 p) o) 115 (1400 * p + σ 113 p) s) 113 p (σ 113 p + 1) := ⟨_, rfl⟩
    rw [← hτ]
    have r113 : ∀ x, τ 113 x = if x = p then σ 113 p + 1 else σ 113 x := fun x => by rw [hτ, am_up_eq, am_up_ne (by decide), am_up_ne (by decide)]
    have r114 : ∀ x, τ 114 x = if x = 1400 * p + σ 113 p then o else σ 114 x := fun x => by rw [hτ, am_up_ne (by decide), am_up_ne (by decide), am_up_eq]
    have r115 : ∀ x, τ 115 x = if x = 1400 * p + σ 113 p then s else σ 115 x := fun x => by rw [hτ, am_up_ne (by decide), am_up_eq, am_up_ne (by decide)]
    refine ⟨?_, fun p' a b => ?_, fun p' a b => ?_, fun x hx => ?_⟩
    · rw [hτ]; exact Fr.up (Fr.up (Fr.up Fr.rf (Or.inl (by decide))) (Or.inl (by decide))) (Or.inl (by decide))
    · have hb := hr p' a b
      unfold mp
      rw [r113]
      by_cases e : p' = p
      · subst e
        rw [if_pos rfl, if_pos rfl, rl_succ _ hpr.1, r114, r115, if_pos rfl, if_pos rfl]
        have ec : rl (σ 113 p') (fun j => (τ 114 (1400 * p' + j), τ 115 (1400 * p' + j))) = rl (σ 113 p') (fun j => (σ 114 (1400 * p' + j), σ 115 (1400 * p' + j))) := rl_congr fun j x y => by rw [r114, r115, if_neg (by omega), if_neg (by omega)]
        rw [ec, lay, if_neg (by omega)]
        by_cases hz : σ 113 p' ≤ 0
        · rw [rl_neg _ hz]; rfl
        · rw [rl_last (by omega), layR_app, if_neg (by
            show ¬ σ 114 (1400 * p' + (σ 113 p' - 1)) = o
            rw [show 1400 * p' + (σ 113 p' - 1) = 1400 * p' + σ 113 p' - 1 by omega]
            exact h1.resolve_left hz), List.append_assoc]
          rfl
      · rw [if_neg e, if_neg e]
        exact rl_congr fun j x y => by rw [r114, r115, if_neg (by omega), if_neg (by omega)]
    · rw [r113]
      have := hr p' a b
      by_cases e : p' = p
      · rw [if_pos e, if_pos e, e]; omega
      · rw [if_neg e, if_neg e]; omega
    · rw [r114, r115, if_neg (by omega), if_neg (by omega)]; exact ⟨rfl, rfl⟩
  refine vm_X12_lays _ _ _ _ ⟨fun h0 => ?_, fun h0 => ⟨hp, hp, fun h1 => ?_, fun h1 => ?_⟩⟩
  · refine ⟨Fr.rf, fun p' a b => ?_, fun p' a b => ?_, fun x _ => ⟨rfl, rfl⟩⟩
    · rw [lay, if_pos (by omega : s ≤ 0)]
      by_cases e : p' = p
      · rw [if_pos e, e]
      · rw [if_neg e]
    · have := hr p' a b
      split <;> omega
  · rw [e2, w32_id (x := σ 113 p + 1) (by omega) (by omega)]
    exact ⟨by omega, by omega, hp, hp, new (by omega) (Or.inl h1)⟩
  · rw [e2, e1, w32_id (x := σ 113 p + 1) (by omega) (by omega)]
    refine ⟨by omega, fun h2 => ⟨by omega, by omega, ?_⟩, fun h2 => ⟨by omega, by omega, hp, hp, new (by omega) (Or.inr h2)⟩⟩
    have hmem : (σ 114 (1400 * p + (σ 113 p - 1)), σ 115 (1400 * p + (σ 113 p - 1))) ∈ mp σ p := rl_mem.mpr ⟨σ 113 p - 1, by omega, by omega, rfl⟩
    have hle := psum_mem hnn _ hmem
    have h0' := hnn _ hmem
    dsimp only at hle h0'
    rw [show 1400 * p + (σ 113 p - 1) = 1400 * p + σ 113 p - 1 by omega] at hle h0'
    rw [w32_id (by omega) (by omega)]
    obtain ⟨τ, hτ⟩ : ∃ τ, τ = am_up σ 115 (1400 * p + σ 113 p - 1) (σ 115 (1400 * p + σ 113 p - 1) + s) := ⟨_, rfl⟩
    rw [← hτ]
    have r113 : ∀ x, τ 113 x = σ 113 x := fun x => by rw [hτ, am_up_ne (by decide)]
    have r114 : ∀ x, τ 114 x = σ 114 x := fun x => by rw [hτ, am_up_ne (by decide)]
    have r115 : ∀ x, τ 115 x = if x = 1400 * p + σ 113 p - 1 then σ 115 (1400 * p + σ 113 p - 1) + s else σ 115 x := fun x => by rw [hτ, am_up_eq]
    refine ⟨by rw [hτ]; exact Fr.up Fr.rf (Or.inl (by decide)), fun p' a b => ?_, fun p' a b => ?_, fun x hx => ?_⟩
    · have hb := hr p' a b
      unfold mp
      rw [r113]
      by_cases e : p' = p
      · subst e
        rw [if_pos rfl, lay, if_neg (by omega), rl_last (n := σ 113 p') (by omega), rl_last (n := σ 113 p') (f := fun j => (σ 114 (1400 * p' + j), σ 115 (1400 * p' + j))) (by omega), layR_app, if_pos (by
          show σ 114 (1400 * p' + (σ 113 p' - 1)) = o
          rw [show 1400 * p' + (σ 113 p' - 1) = 1400 * p' + σ 113 p' - 1 by omega]
          exact h2)]
        congr 1
        · exact rl_congr fun j x y => by rw [r114, r115, if_neg (by omega)]
        · rw [r114, r115, show 1400 * p' + (σ 113 p' - 1) = 1400 * p' + σ 113 p' - 1 by omega, if_pos rfl]
      · rw [if_neg e]
        exact rl_congr fun j x y => by rw [r114, r115, if_neg (by omega)]
    · rw [r113]
      have := hr p' a b
      split <;> omega
    · rw [r114, r115, if_neg (by omega)]; exact ⟨rfl, rfl⟩
