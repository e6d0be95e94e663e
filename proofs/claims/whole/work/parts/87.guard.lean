/-! what is asked ahead of each call -/
theorem cG {Ln : Int} {d m : Nat} {as : List AV} {σ : AS} {c : Prop} [Decidable c] {A B : AS → Prop} (h : am_M Ln d m as σ (am_rI fun r s => r = (if c then 1 else 0) ∧ s = σ)) (hA : ¬ c → A σ) (hB : c → B σ) :
    ∃ T : Option AV → AS → Prop, am_M Ln d m as σ T ∧ ∀ (r : Int) s, T (some (vI r)) s → (r = 0 → A s) ∧ (¬ (r = 0) → B s) := by
  refine cI h ?_
  rintro r s ⟨h1, rfl⟩
  refine ⟨fun hz => hA (fun q => ?_), fun hz => hB ?_⟩
  · rw [if_pos q] at h1; omega
  · by_cases q : c
    · exact q
    · rw [if_neg q] at h1; exact absurd h1 hz
section GD
variable {Ln : Int} {d : Nat} {σ C : AS} {a : Int}
theorem sp_cPerson : am_M Ln (d + 1) 125 [vR 1, vI a] σ (am_rI fun r s => r = (if 0 ≤ a ∧ a < σ 1 11 then 1 else 0) ∧ s = σ) := vm_X11_isPerson _ _ ⟨fun h => ⟨am_b0, by rw [if_neg (by omega)], rfl⟩, fun h => ⟨fun h2 => ⟨am_b0, by rw [if_neg (by omega)], rfl⟩, fun h2 => ⟨am_b1, by rw [if_pos (by omega)], rfl⟩⟩⟩
theorem sp_cPurse : am_M Ln (d + 1) 127 [vR 1, vI a] σ (am_rI fun r s => r = (if 0 ≤ a ∧ a < σ 4 2 then 1 else 0) ∧ s = σ) := vm_X11_isPurse _ _ ⟨fun h => ⟨am_b0, by rw [if_neg (by omega)], rfl⟩, fun h => ⟨fun h2 => ⟨am_b0, by rw [if_neg (by omega)], rfl⟩, fun h2 => ⟨am_b1, by rw [if_pos (by omega)], rfl⟩⟩⟩
theorem sp_cThing : am_M Ln (d + 1) 128 [vR 1, vI a] σ (am_rI fun r s => r = (if 0 ≤ a ∧ a < σ 1 12 then 1 else 0) ∧ s = σ) := vm_X11_isThing _ _ ⟨fun h => ⟨am_b0, by rw [if_neg (by omega)], rfl⟩, fun h => ⟨fun h2 => ⟨am_b0, by rw [if_neg (by omega)], rfl⟩, fun h2 => ⟨am_b1, by rw [if_pos (by omega)], rfl⟩⟩⟩
theorem sp_cLine : am_M Ln (d + 1) 129 [vR 1, vI a] σ (am_rI fun r s => r = (if 0 ≤ a ∧ a < σ 7 11 then 1 else 0) ∧ s = σ) := vm_X11_isLine _ _ ⟨fun h => ⟨am_b0, by rw [if_neg (by omega)], rfl⟩, fun h => ⟨fun h2 => ⟨am_b0, by rw [if_neg (by omega)], rfl⟩, fun h2 => ⟨am_b1, by rw [if_pos (by omega)], rfl⟩⟩⟩
theorem sp_cDay : am_M Ln (d + 1) 130 [vI a] σ (am_rI fun r s => r = (if 0 ≤ a ∧ a ≤ 3999 then 1 else 0) ∧ s = σ) := vm_X11_isDay _ _ ⟨fun h => ⟨am_b0, by rw [if_neg (by omega)], rfl⟩, fun h => ⟨fun h2 => ⟨am_b0, by rw [if_neg (by omega)], rfl⟩, fun h2 => ⟨am_b1, by rw [if_pos (by omega)], rfl⟩⟩⟩
theorem sp_cSum : am_M Ln (d + 1) 131 [vI a] σ (am_rI fun r s => r = (if 1 ≤ a ∧ a ≤ 1000000 then 1 else 0) ∧ s = σ) := vm_X11_isSum _ _ ⟨fun h => ⟨am_b0, by rw [if_neg (by omega)], rfl⟩, fun h => ⟨fun h2 => ⟨am_b0, by rw [if_neg (by omega)], rfl⟩, fun h2 => ⟨am_b1, by rw [if_pos (by omega)], rfl⟩⟩⟩
theorem sp_cWay : am_M Ln (d + 1) 132 [vI a] σ (am_rI fun r s => r = (if 0 ≤ a ∧ a < 5 then 1 else 0) ∧ s = σ) := vm_X11_isWay _ _ ⟨fun h => ⟨am_b0, by rw [if_neg (by omega)], rfl⟩, fun h => ⟨fun h2 => ⟨am_b0, by rw [if_neg (by omega)], rfl⟩, fun h2 => ⟨am_b1, by rw [if_pos (by omega)], rfl⟩⟩⟩
theorem sp_cPersonOrAll : am_M Ln (d + 2) 126 [vR 1, vI a] σ (am_rI fun r s => r = (if a = -1 ∨ (0 ≤ a ∧ a < σ 1 11) then 1 else 0) ∧ s = σ) :=
  vm_X11_isPersonOrAll _ _ ⟨fun h => ⟨am_b1, by rw [if_pos (Or.inl h)], rfl⟩, fun h => cG sp_cPerson (fun hn => ⟨am_b0, by rw [if_neg (fun q => q.elim h hn)], rfl⟩) (fun hy => ⟨am_b1, by rw [if_pos (Or.inr hy)], rfl⟩)⟩
theorem sp_mlb {lo hi : Int} {m : Nat} {as : List AV} {c : Prop} [Decidable c] (hc : (lo ≤ a ∧ a ≤ hi) ↔ c) (h : ∀ Q : Option AV → AS → Prop, (∃ T : Option AV → AS → Prop, am_M Ln (d + 1) 134 [vL a, vL lo, vL hi] σ T ∧ ∀ (r2 : Int) s1, T (some (vI r2)) s1 → am_b r2 ∧ Q (some (vI r2)) s1) → am_M Ln (d + 2) m as σ Q) :
    am_M Ln (d + 2) m as σ (am_rI fun r s => r = (if c then 1 else 0) ∧ s = σ) := by
  refine h _ (cI sp_mlies ?_)
  rintro r s ⟨h1, h2⟩
  have : r = if c then 1 else 0 := by
    rw [h1]
    by_cases q : c
    · rw [if_pos (hc.mpr q), if_pos q]
    · rw [if_neg (fun z => q (hc.mp z)), if_neg q]
  exact ⟨by rw [this]; exact am_b_if, this, h2⟩
theorem sp_mPerson (hB : BK C) (hf : Fr wkX wkF C σ) (hn : 0 ≤ C 1 11 ∧ C 1 11 ≤ 100) : am_M Ln (d + 2) 136 [vR 82, vI a] σ (am_rI fun r s => r = (if 0 ≤ a ∧ a < C 1 11 then 1 else 0) ∧ s = σ) := by
  have e : σ 82 3 = C 1 11 := by rw [hf.fld 82 3 (by decide)]; exact hB.2.2.2.2.1
  refine sp_mlb (a := a) (lo := 0) (hi := C 1 11 - 1) (by omega) (fun Q h => vm_X12_isPerson _ _ ?_)
  rw [e, w32_id (by omega) (by omega)]
  exact h
theorem sp_mPurse (hB : BK C) (hf : Fr wkX wkF C σ) (hn : 0 ≤ C 4 2 ∧ C 4 2 ≤ 100) : am_M Ln (d + 2) 137 [vR 82, vI a] σ (am_rI fun r s => r = (if 0 ≤ a ∧ a < C 4 2 then 1 else 0) ∧ s = σ) := by
  have e : σ 82 4 = C 4 2 := by rw [hf.fld 82 4 (by decide)]; exact hB.2.2.2.2.2.1
  refine sp_mlb (a := a) (lo := 0) (hi := C 4 2 - 1) (by omega) (fun Q h => vm_X12_isPurse _ _ ?_)
  rw [e, w32_id (by omega) (by omega)]
  exact h
theorem sp_mThing (hB : BK C) (hf : Fr wkX wkF C σ) (hn : 0 ≤ C 1 12 ∧ C 1 12 ≤ 100) : am_M Ln (d + 2) 138 [vR 82, vI a] σ (am_rI fun r s => r = (if 0 ≤ a ∧ a < C 1 12 then 1 else 0) ∧ s = σ) := by
  have e : σ 82 5 = C 1 12 := by rw [hf.fld 82 5 (by decide)]; exact hB.2.2.2.2.2.2.1
  refine sp_mlb (a := a) (lo := 0) (hi := C 1 12 - 1) (by omega) (fun Q h => vm_X12_isThing _ _ ?_)
  rw [e, w32_id (by omega) (by omega)]
  exact h
theorem sp_mLine (hB : BK C) (hf : Fr wkX wkF C σ) (hn : 0 ≤ C 7 11 ∧ C 7 11 ≤ 100) : am_M Ln (d + 2) 148 [vR 82, vI a] σ (am_rI fun r s => r = (if 0 ≤ a ∧ a < C 7 11 then 1 else 0) ∧ s = σ) := by
  have e : σ 82 6 = C 7 11 := by rw [hf.fld 82 6 (by decide)]; exact hB.2.2.2.2.2.2.2.1
  refine sp_mlb (a := a) (lo := 0) (hi := C 7 11 - 1) (by omega) (fun Q h => vm_X12_isLine _ _ ?_)
  rw [e, w32_id (by omega) (by omega)]
  exact h
theorem sp_mDay : am_M Ln (d + 2) 139 [vI a] σ (am_rI fun r s => r = (if 0 ≤ a ∧ a ≤ 3999 then 1 else 0) ∧ s = σ) :=
  sp_mlb (a := a) (lo := 0) (hi := 3999) (by omega) (fun Q h => vm_X12_isDay _ _ h)
theorem sp_mWay : am_M Ln (d + 2) 221 [vI a] σ (am_rI fun r s => r = (if 0 ≤ a ∧ a < 5 then 1 else 0) ∧ s = σ) :=
  sp_mlb (a := a) (lo := 0) (hi := 4) (by omega) (fun Q h => vm_X12_isWay _ _ h)
theorem sp_mAsked {b : Int} : am_M Ln (d + 3) 207 [vR 82, vI a, vI b] σ (am_rI fun r s => r = (if (0 ≤ a ∧ a ≤ 3999) ∧ 0 ≤ b ∧ b ≤ 3999 then 1 else 0) ∧ s = σ) :=
  vm_X12_isAsked _ _ _ (cG sp_mDay (fun hn => ⟨am_b0, by rw [if_neg (fun q => hn q.1)], rfl⟩) (fun hy => cG sp_mDay (fun hn => ⟨am_b0, by rw [if_neg (fun q => hn q.2)], rfl⟩) (fun hy2 => ⟨am_b1, by rw [if_pos ⟨hy, hy2⟩], rfl⟩)))
end GD
/-- the answer of a question: what it is if it may be asked, else another -/
def ansF (cs : List Nat) (fs : List (Nat × Int)) (σ : AS) (c : Prop) (v w : Int) (r : Int) (s : AS) : Prop := (c → r = v) ∧ (¬ c → r = w) ∧ Fr cs fs σ s
theorem ansN {cs : List Nat} {fs : List (Nat × Int)} {σ : AS} {c : Prop} {v w : Int} (h : ¬ c) : ansF cs fs σ c v w w σ := ⟨fun q => absurd q h, fun _ => rfl, Fr.rf⟩
theorem ansNs {cs : List Nat} {fs : List (Nat × Int)} {σ s : AS} {c : Prop} {v w : Int} (h : ¬ c) (hf : Fr cs fs σ s) : ansF cs fs σ c v w w s := ⟨fun q => absurd q h, fun _ => rfl, hf⟩
theorem ansY {cs : List Nat} {fs : List (Nat × Int)} {σ s : AS} {c : Prop} {v w r : Int} (h : c) (hr : r = v) (hf : Fr cs fs σ s) : ansF cs fs σ c v w r s := ⟨fun _ => hr, fun q => absurd h q, hf⟩
/-- two questions with the same answer -/
theorem pr_ans {Ln : Int} {mx mm : Nat} {ax am : List AV} {σ : AS} {n : Nat} {G : Int → GF} {c : Prop} {v w : Int} {cs cs' : List Nat} {fs fs' : List (Nat × Int)} (hI : INV σ n G) (h1 : am_M Ln 1000 mx ax σ (am_rI (ansF cs fs σ c v w))) (h2 : ∀ s, Fr cs fs σ s → am_M Ln 1000 mm am s (am_rI (ansF cs' fs' s c v w))) (hd : dsj cs fs IVC IVF = true) (hd' : dsj cs' fs' IVC IVF = true) : PR Ln mx ax mm am σ := by
  refine am_MI h1 ?_
  rintro r s ⟨a1, a2, a3⟩
  refine ⟨(dsj_c hd a3).1 0 (by decide), am_MI (h2 s a3) ?_⟩
  rintro r' s' ⟨b1, b2, b3⟩
  refine ⟨?_, ((dsj_c hd' b3).1 0 (by decide)).trans ((dsj_c hd a3).1 0 (by decide)), n, G, INV_fr (INV_fr hI a3 hd) b3 hd'⟩
  by_cases q : c
  · rw [a1 q, b1 q]
  · rw [a2 q, b2 q]
