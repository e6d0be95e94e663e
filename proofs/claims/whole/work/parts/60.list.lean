/-! the lines known on a day, as the class lists them -/
def knw (C : AS) (t i : Int) : Bool := decide (C 16 i ≤ t ∧ (C 17 i = -1 ∨ t < C 17 i))
def lst (C : AS) (d t : Int) (k : Int) : List Int := (rl k (C 18)).filter (fun i => knw C t i && decide (C 13 i ≤ d))
theorem sp_isKnown {Ln : Int} {d : Nat} {σ : AS} {i t : Int} (h : 0 ≤ i ∧ i < 100) : am_M Ln (d + 1) 21 [vR 7, vI i, vI t] σ (am_rI fun r σ' => r = (if knw σ t i = true then 1 else 0) ∧ σ' = σ) := by
  refine vm_X3_isKnown _ _ _ ⟨h, fun h1 => ⟨am_b0, ?_, rfl⟩, fun h1 => ⟨h, fun h2 => ⟨am_b1, ?_, rfl⟩, fun h2 => ⟨h, fun h3 => ⟨am_b0, ?_, rfl⟩, fun h3 => ⟨am_b1, ?_, rfl⟩⟩⟩⟩
  · rw [knw, decide_eq_false (by omega)]; rfl
  · rw [knw, decide_eq_true ⟨by omega, Or.inl h2⟩]; rfl
  · rw [knw, decide_eq_false (by omega)]; rfl
  · rw [knw, decide_eq_true ⟨by omega, Or.inr (by omega)⟩]; rfl
def xlist (C : AS) (d t : Int) (k : Int) (σ0 σ : AS) : Prop := Fr [65] [(40, 7)] σ0 σ ∧ (0 ≤ σ 40 7 ∧ σ 40 7 ≤ k) ∧ rl (σ 40 7) (σ 65) = lst C d t k
theorem lp_list {Ln : Int} {dd : Nat} {C σ0 : AS} {d t : Int} (hf : Fr wkX wkF C σ0) (hn : 0 ≤ C 7 11 ∧ C 7 11 ≤ 100) (hs : ∀ k : Int, 0 ≤ k → k < C 7 11 → 0 ≤ C 18 k ∧ C 18 k < 100) : ∀ (q : Nat) (k : Int) (σ : AS), 0 ≤ k → k ≤ C 7 11 → (C 7 11 - k).toNat = q → xlist C d t k σ0 σ →
    am_E Ln (dd + 1) 31 20 [vR 40, vI d, vI t, vI k, vU] [] σ (am_rV (xlist C d t (C 7 11) σ0)) := by
  intro q
  induction q with
  | zero =>
    intro k σ h0 h1 hq hx
    obtain rfl : k = C 7 11 := by omega
    have e : σ 7 11 = C 7 11 := by rw [hx.1.fld 7 11 (by decide), hf.fld 7 11 (by decide)]
    exact vl_X6_list_20 _ _ _ _ ⟨fun _ => hx, fun h => absurd (by omega) h⟩
  | succ q ih =>
    intro k σ h0 h1 hq hx
    obtain ⟨x1, x2, x3⟩ := hx
    have fC : Fr wkX wkF C σ := hf.tr (x1.mo (by decide) (by decide))
    have e : σ 7 11 = C 7 11 := fC.fld 7 11 (by decide)
    have e18 : σ 18 = C 18 := fC.cell 18 (by decide)
    have hk := hs k h0 (by omega)
    have ek : knw σ t (C 18 k) = knw C t (C 18 k) := by unfold knw; rw [fC.cell 16 (by decide), fC.cell 17 (by decide)]
    have el : lst C d t (k + 1) = lst C d t k ++ (if (knw C t (C 18 k) && decide (C 13 (C 18 k) ≤ d)) = true then [C 18 k] else []) := by
      unfold lst
      rw [rl_succ _ h0, List.filter_append, List.filter_cons, List.filter_nil]
    have skip : (knw C t (C 18 k) && decide (C 13 (C 18 k) ≤ d)) = false → xlist C d t (k + 1) σ0 σ := fun hz => ⟨x1, ⟨x2.1, by omega⟩, by rw [el, hz, if_neg (by decide), List.append_nil]; exact x3⟩
    refine vl_X6_list_20 _ _ _ _ ⟨fun h => absurd h (by omega), fun _ => ⟨⟨h0, by omega⟩, ?_⟩⟩
    rw [e18, w32_id (by omega) (by omega)]
    refine cI (sp_isKnown hk) ?_
    rintro r s1 ⟨r1, rfl⟩
    rw [ek] at r1
    refine ⟨fun hz => ih (k + 1) s1 (by omega) (by omega) (by omega) (skip ?_), fun hz => ⟨hk, fun h2 => ih (k + 1) s1 (by omega) (by omega) (by omega) (skip ?_), fun h2 => ⟨⟨by omega, by omega⟩, ?_⟩⟩⟩
    · rw [r1] at hz
      split at hz
      · exact absurd hz (by decide)
      · rename_i hb; simp [hb]
    · rw [fC.cell 13 (by decide)] at h2
      rw [decide_eq_false (by omega), Bool.and_false]
    · rw [fC.cell 13 (by decide)] at h2
      have hb : knw C t (C 18 k) = true := by
        by_cases hb : knw C t (C 18 k) = true
        · exact hb
        · rw [if_neg hb] at r1; exact absurd r1 hz
      rw [w32_id (by omega) (by omega)]
      refine ih (k + 1) _ (by omega) (by omega) (by omega) ⟨Fr.up (Fr.up x1 (Or.inl (by decide))) (Or.inr (by decide)), ?_, ?_⟩
      · rw [am_up_eq, if_pos rfl]; omega
      · rw [am_up_eq, if_pos rfl, el, if_pos (by rw [hb, decide_eq_true (by omega)]; rfl), rl_succ _ x2.1]
        congr 1
        · rw [← x3]
          exact rl_congr fun j a b => by rw [am_up_ne (by decide), am_up_eq, if_neg (by omega)]
        · rw [am_up_ne (by decide), am_up_eq, if_pos rfl]
