/-! making good -/
def xgood (σ : AS) (p o h s b : Int) (σ' : AS) : Prop := XW σ' ∧ Fr [42, 43, 44, 45, 47, 50] [(41, 3)] σ σ' ∧ (∀ p' : Int, 0 ≤ p' → p' < 10 → xp σ' p' = if p' = p then lay (lay (xp σ p) o b) h (s - b) else xp σ p') ∧
  σ' 47 = fu (σ 47) (10 * p + o) (σ 47 (10 * p + o) - b) ∧ ∀ x : Int, 0 ≤ x → x < 10 → σ' 50 x = (if x = o then b else 0) + (if x = h then s - b else 0)
theorem sp_makeGood {Ln : Int} {d : Nat} {σ : AS} {p o s : Int} (hw : XW σ) (hz : σ 41 3 ≤ 1000) (hp : 0 ≤ p ∧ p < 10) (ho : 0 ≤ o ∧ o < 10) (hh : 0 ≤ σ 5 p ∧ σ 5 p < 10) (hs : 1 ≤ s ∧ s ≤ 1000000) (hps : psum (xp σ p) ≤ 100000000)
    (hb : 0 ≤ σ 47 (10 * p + o) ∧ σ 47 (10 * p + o) ≤ 100000000) (hg : ∀ o : Int, 0 ≤ o → o < 10 → σ 50 o = 0) :
    am_M Ln (d + 3) 44 [vR 40, vI p, vI o, vI s] σ (am_rV (xgood σ p o (σ 5 p) s (min s (σ 47 (10 * p + o))))) := by
  have ei : w32 (w32 (p * 10) + o) = 10 * p + o := by rw [w32_id (x := p * 10) (by omega) (by omega), w32_id (by omega) (by omega)]; omega
  have hpn := psum_nn (pok_nn (xp_ok hw p))
  refine vm_X6_makeGood _ _ _ _ ?_
  rw [ei]
  obtain ⟨b, hbd⟩ : ∃ b, b = min s (σ 47 (10 * p + o)) := ⟨_, rfl⟩
  rw [← hbd, w32_id (x := σ 47 (10 * p + o) - b) (by omega) (by omega), w32_id (x := s - b) (by omega) (by omega)]
  obtain ⟨τ, hτ⟩ : ∃ τ, τ = am_up σ 47 (10 * p + o) (σ 47 (10 * p + o) - b) := ⟨_, rfl⟩
  rw [← hτ]
  have e : ∀ c : Nat, c ≠ 47 → τ c = σ c := fun c hc => by rw [hτ, am_up_ne hc]
  have exp' : ∀ p', xp τ p' = xp σ p' := fun p' => by unfold xp xl; rw [e 41 (by decide), e 42 (by decide), e 43 (by decide), e 44 (by decide)]
  have hwτ : XW τ := by unfold XW; rw [e 41 (by decide), e 42 (by decide), e 43 (by decide), e 44 (by decide), e 45 (by decide)]; exact hw
  refine ⟨by omega, by omega, by omega, ?_⟩
  refine cV (sp_receive hwτ hp ho (by rw [e 41 (by decide)]; omega) (by rw [exp']; omega) ⟨by omega, by omega⟩ (by rw [e 50 (by decide), hg o ho.1 ho.2]; omega)) ?_
  rintro s1 ⟨ρ, ⟨y1, y2, y3, y4, y5⟩, rfl⟩
  have e5 : am_up ρ 50 o (τ 50 o + b) 5 = σ 5 := by rw [am_up_ne (by decide), y2.cell 5 (by decide), e 5 (by decide)]
  rw [e5]
  refine ⟨hp, ?_⟩
  have exq : ∀ p', xp (am_up ρ 50 o (τ 50 o + b)) p' = xp ρ p' := fun p' => rfl
  have e50 : ∀ x : Int, 0 ≤ x → x < 10 → am_up ρ 50 o (τ 50 o + b) 50 x = if x = o then b else 0 := fun x a c => by
    rw [am_up_eq, e 50 (by decide), hg o ho.1 ho.2, y2.cell 50 (by decide), e 50 (by decide), hg x a c]
    split
    · omega
    · rfl
  have hq := y3 p hp.1 hp.2
  rw [if_pos rfl, exp'] at hq
  refine cV (sp_receive (s := s - b) y1 hp hh ?_ ?_ ⟨by omega, by omega⟩ ?_) ?_
  · show ρ 41 3 < 1010
    have := e 41 (by decide)
    rw [this] at y4
    omega
  · rw [exq, hq, lay_psum (by omega)]; omega
  · rw [e50 _ hh.1 hh.2]; split <;> omega
  · rintro s2 ⟨ρ2, ⟨z1, z2, z3, z4, z5⟩, rfl⟩
    refine ⟨z1, ?_, fun p' a c => ?_, ?_, fun x a c => ?_⟩
    · refine Fr.up (Fr.tr (σ1 := am_up ρ 50 o (τ 50 o + b)) (Fr.up (Fr.tr (σ1 := τ) ?_ (y2.mo (by decide) (by decide))) (Or.inl (by decide))) (z2.mo (by decide) (by decide))) (Or.inl (by decide))
      rw [hτ]; exact Fr.up Fr.rf (Or.inl (by decide))
    · show xp ρ2 p' = _
      rw [z3 p' a c, exq, exq, hq, y3 p' a c, exp', exp']
      by_cases q : p' = p
      · rw [if_pos q, if_pos q]
      · rw [if_neg q, if_neg q, if_neg q]
    · rw [am_up_ne (by decide), z2.cell 47 (by decide), am_up_ne (by decide), y2.cell 47 (by decide), hτ, up_zc, zc_eq]
    · rw [am_up_eq, z2.cell 50 (by decide), e50 _ hh.1 hh.2, e50 x a c]
      by_cases q : x = σ 5 p
      · rw [if_pos q, if_pos q, q]
      · rw [if_neg q, if_neg q, Int.add_zero]
