/-! where a day's lines stand -/
def dayP (σ : AS) (dy : Int) (j a b : Int) : Prop := (0 ≤ a ∧ a ≤ b ∧ b ≤ j) ∧ (∀ x : Int, 0 ≤ x → x < a → σ 13 (σ 65 x) < dy) ∧ (∀ x : Int, a ≤ x → x < j → dy ≤ σ 13 (σ 65 x)) ∧ (∀ x : Int, 0 ≤ x → x < b → σ 13 (σ 65 x) ≤ dy) ∧ ∀ x : Int, b ≤ x → x < j → dy < σ 13 (σ 65 x)
section FDY
variable {Ln : Int} {d : Nat} {σ : AS} {dy : Int} {R : Nat}
theorem lp_findDay (h7 : σ 40 7 = R) (hR : R ≤ 100) (h65 : ∀ x : Int, 0 ≤ x → x < R → 0 ≤ σ 65 x ∧ σ 65 x < 100) (hm : ∀ x y : Int, 0 ≤ x → x ≤ y → y < R → σ 13 (σ 65 x) ≤ σ 13 (σ 65 y)) : ∀ (m : Nat) (j a b : Int) (s : AS), j + m = R → 0 ≤ j → Fr [] [(69, 2), (69, 3)] σ s → s 69 2 = a → s 69 3 = b → dayP σ dy j a b →
    am_E Ln d 25 12 [vR 69, vI dy, vI j] [] s (am_rV fun s' => Fr [] [(69, 2), (69, 3)] σ s' ∧ dayP σ dy R (s' 69 2) (s' 69 3)) := by
  intro m
  induction m with
  | zero =>
    intro j a b s hj h0 hs ha hb hp
    obtain rfl : j = R := by omega
    refine vl_X4_findDay_12 _ _ _ ⟨fun _ => ⟨hs, by rw [ha, hb]; exact hp⟩, fun h => absurd ?_ h⟩
    rw [hs.fld 40 7 (by decide), h7]; omega
  | succ m ih =>
    intro j a b s hj h0 hs ha hb hp
    obtain ⟨p1, p2, p3, p4, p5⟩ := hp
    have rj : 0 ≤ j ∧ j < 100 := by omega
    have rs := h65 j h0 (by omega)
    have hmj := fun (x : Int) (x0 : 0 ≤ x) (x1 : x ≤ j) => hm x j x0 x1 (by omega)
    refine vl_X4_findDay_12 _ _ _ ⟨fun h => absurd h ?_, fun _ => ?_⟩
    · rw [hs.fld 40 7 (by decide), h7]; omega
    · rw [hs.cell 65 (by decide), hs.cell 13 (by decide), w32_id (x := j + 1) (by omega) (by omega)]
      refine ⟨rj, rs, fun e1 => ⟨rj, rs, fun e2 => ?_, fun e2 => ?_⟩, fun e1 => ⟨rj, rs, fun e2 => absurd e2 (by omega), fun e2 => ?_⟩⟩
      · refine ih (j + 1) a b s (by omega) (by omega) hs ha hb ⟨by omega, p2, fun x x0 x1 => ?_, p4, fun x x0 x1 => ?_⟩
        · by_cases z : x = j
          · rw [z]; exact e1
          · exact p3 x x0 (by omega)
        · by_cases z : x = j
          · rw [z]; exact e2
          · exact p5 x x0 (by omega)
      · refine ih (j + 1) a (j + 1) _ (by omega) (by omega) (hs.up (Or.inr (by decide))) (by rw [am_up_eq, if_neg (by decide), ha]) (by rw [am_up_eq, if_pos rfl]) ⟨by omega, p2, fun x x0 x1 => ?_, fun x x0 x1 => ?_, fun x x0 x1 => absurd x1 (by omega)⟩
        · by_cases z : x = j
          · rw [z]; exact e1
          · exact p3 x x0 (by omega)
        · have := hmj x x0 (by omega)
          omega
      · refine ih (j + 1) (j + 1) (j + 1) _ (by omega) (by omega) ((hs.up (Or.inr (by decide))).up (Or.inr (by decide))) (by rw [am_up_eq, if_neg (by decide), am_up_eq, if_pos rfl]) (by rw [am_up_eq, if_pos rfl]) ⟨by omega, fun x x0 x1 => ?_, fun x x0 x1 => absurd x1 (by omega), fun x x0 x1 => ?_, fun x x0 x1 => absurd x1 (by omega)⟩
        · have := hmj x x0 (by omega)
          omega
        · have := hmj x x0 (by omega)
          omega
theorem sp_findDay (h7 : σ 40 7 = R) (hR : R ≤ 100) (h65 : ∀ x : Int, 0 ≤ x → x < R → 0 ≤ σ 65 x ∧ σ 65 x < 100) (hm : ∀ x y : Int, 0 ≤ x → x ≤ y → y < R → σ 13 (σ 65 x) ≤ σ 13 (σ 65 y)) : am_M Ln (d + 1) 25 [vR 69, vI dy] σ (am_rV fun s' => Fr [] [(69, 2), (69, 3)] σ s' ∧ dayP σ dy R (s' 69 2) (s' 69 3)) := by
  refine vm_X4_findDay _ _ (lp_findDay h7 hR h65 hm R 0 0 0 _ (by omega) (by omega) ((Fr.rf.up (Or.inr (by decide))).up (Or.inr (by decide))) ?_ ?_ ⟨by omega, fun x x0 x1 => absurd x1 (by omega), fun x x0 x1 => absurd x1 (by omega), fun x x0 x1 => absurd x1 (by omega), fun x x0 x1 => absurd x1 (by omega)⟩)
  · rw [am_up_eq, if_neg (by decide), am_up_eq, if_pos rfl]
  · rw [am_up_eq, if_pos rfl]
end FDY
