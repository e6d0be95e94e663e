/-! line, move, deal -/
theorem mvP {Ln : Int} {d : Nat} {ρ : AS} {a N : Int} (e : ρ 82 3 = N) (hN : 0 ≤ N ∧ N ≤ 100) : am_M Ln (d + 2) 136 [vR 82, vI a] ρ (am_rI fun r s => r = (if 0 ≤ a ∧ a < N then 1 else 0) ∧ s = ρ) := by
  refine sp_mlb (a := a) (lo := 0) (hi := N - 1) (by omega) (fun Q h => vm_X12_isPerson _ _ ?_)
  rw [e, w32_id (by omega) (by omega)]
  exact h
theorem mvU {Ln : Int} {d : Nat} {ρ : AS} {a N : Int} (e : ρ 82 4 = N) (hN : 0 ≤ N ∧ N ≤ 100) : am_M Ln (d + 2) 137 [vR 82, vI a] ρ (am_rI fun r s => r = (if 0 ≤ a ∧ a < N then 1 else 0) ∧ s = ρ) := by
  refine sp_mlb (a := a) (lo := 0) (hi := N - 1) (by omega) (fun Q h => vm_X12_isPurse _ _ ?_)
  rw [e, w32_id (by omega) (by omega)]
  exact h
theorem mvT' {Ln : Int} {d : Nat} {ρ : AS} {a N : Int} (e : ρ 82 5 = N) (hN : 0 ≤ N ∧ N ≤ 100) : am_M Ln (d + 2) 138 [vR 82, vI a] ρ (am_rI fun r s => r = (if 0 ≤ a ∧ a < N then 1 else 0) ∧ s = ρ) := by
  refine sp_mlb (a := a) (lo := 0) (hi := N - 1) (by omega) (fun Q h => vm_X12_isThing _ _ ?_)
  rw [e, w32_id (by omega) (by omega)]
  exact h
section LN
variable {Ln : Int} {σ : AS} {n : Nat} {G : Int → GF}
theorem mv_eq (hI : INV σ n G) {ρ : AS} (h : Fr wkX wkF σ ρ ∨ Fr [8, 9, 10, 11, 12, 13, 14, 15, 16, 17, 18] [(7, 11)] σ ρ) : ρ 82 3 = σ 1 11 ∧ ρ 82 4 = σ 4 2 ∧ ρ 82 5 = σ 1 12 := by
  have hB := hI.1.1
  rcases h with h | h
  · exact ⟨by rw [h.fld 82 3 (by decide)]; exact hB.2.2.2.2.1, by rw [h.fld 82 4 (by decide)]; exact hB.2.2.2.2.2.1, by rw [h.fld 82 5 (by decide)]; exact hB.2.2.2.2.2.2.1⟩
  · exact ⟨by rw [h.fld 82 3 (by decide)]; exact hB.2.2.2.2.1, by rw [h.fld 82 4 (by decide)]; exact hB.2.2.2.2.2.1, by rw [h.fld 82 5 (by decide)]; exact hB.2.2.2.2.2.2.1⟩
theorem pr_move (hI : INV σ n G) (p q s g dy f t : Int) : PR Ln 97 [vR 1, vI p, vI q, vI s, vI g, vI dy, vI f, vI t] 146 [vR 82, vI p, vI q, vI s, vI g, vI dy, vI f, vI t] σ := by
  have hP := hI.2.2.2.1.2.1
  refine pr_ln (A := (0 ≤ p ∧ p < σ 4 2) ∧ (0 ≤ q ∧ q < σ 4 2) ∧ p ≠ q) (k := 1) (p := p) (w := q) (s := s) (g := g) (dy := dy) (f := f) (t := t) hI (fun hA => ⟨by omega, hA.1, fun _ => ⟨hA.2.1.1, by omega⟩, fun _ e => hA.2.2 e.symm, fun h => by omega, fun h => by omega⟩) ?_ (fun hA ρ P hρ hm => ?_) (fun hA => ?_)
  · exact vm_X11_move _ _ _ _ _ _ _ _ (cG sp_cPurse (fun h => lnN (fun q => h q.1.1)) (fun g1 => cG sp_cPurse (fun h => lnN (fun q => h q.1.2.1)) (fun g2 => ⟨fun h => lnN (fun q => q.1.2.2 h), fun g3 => c_tail hI ⟨g1, g2, g3⟩⟩)))
  · obtain ⟨e3, e4, e5⟩ := mv_eq hI hρ
    exact vm_X12_move _ _ _ _ _ _ _ _ (cG (mvU e4 (by omega)) (fun h => absurd hA.1 h) (fun _ => cG (mvU e4 (by omega)) (fun h => absurd hA.2.1 h) (fun _ => ⟨fun h => absurd h hA.2.2, fun _ => cI hm (fun r s h => h)⟩)))
  · obtain ⟨e3, e4, e5⟩ := mv_eq hI (Or.inl Fr.rf)
    exact vm_X12_move _ _ _ _ _ _ _ _ (cG (mvU e4 (by omega)) (fun h => ⟨rfl, rfl⟩) (fun g1 => cG (mvU e4 (by omega)) (fun h => ⟨rfl, rfl⟩) (fun g2 => ⟨fun h => ⟨rfl, rfl⟩, fun g3 => absurd ⟨g1, g2, g3⟩ hA⟩)))
theorem pr_line (hI : INV σ n G) (k p w s dy f t : Int) : PR Ln 96 [vR 1, vI k, vI p, vI w, vI s, vI dy, vI f, vI t] 145 [vR 82, vI k, vI p, vI w, vI s, vI dy, vI f, vI t] σ := by
  have hP := hI.2.2.2.1.2.1
  have hn := hI.1.2.1
  have hn2 := hI.1.2.2.1
  have hnn := INV_n hI
  refine pr_ln (A := (k = 0 ∨ k = 2 ∨ k = 5) ∧ (k = 2 → w = -1) ∧ (k ≠ 2 → 0 ≤ w ∧ w < σ 1 11) ∧ (0 ≤ p ∧ p < σ 4 2)) (k := k) (p := p) (w := w) (s := s) (g := 0) (dy := dy) (f := f) (t := t) hI (fun hA => ⟨by omega, hA.2.2.2, fun h => by have := hA.2.2.1 h; omega, fun h => by omega, fun h => by have := hA.2.2.1 (by omega); omega, fun h => by omega⟩) ?_ (fun hA ρ P hρ hm => ?_) (fun hA => ?_)
  · exact vm_X11_line _ _ _ _ _ _ _ _ ⟨fun k0 => ⟨fun k2 => absurd k2 (by omega), fun k2 => cG sp_cPerson (fun h => lnN (fun q => h (q.1.2.2.1 k2))) (fun g1 => cG sp_cPurse (fun h => lnN (fun q => h q.1.2.2.2)) (fun g2 => c_tail hI ⟨by omega, fun z => absurd z k2, fun _ => g1, g2⟩))⟩, fun k0 => ⟨fun k2 => ⟨fun _ => ⟨fun hw => ⟨fun q => absurd q (by decide), fun _ => cG sp_cPurse (fun h => lnN (fun q => h q.1.2.2.2)) (fun g2 => c_tail hI ⟨Or.inr (Or.inl k2), fun _ => hw, fun z => absurd k2 z, g2⟩)⟩, fun hw => ⟨fun _ => lnN (fun q => hw (q.1.2.1 k2)), fun q => absurd rfl q⟩⟩, fun q => absurd k2 q⟩, fun k2 => ⟨fun k5 => ⟨fun q => absurd q k2, fun _ => cG sp_cPerson (fun h => lnN (fun q => h (q.1.2.2.1 k2))) (fun g1 => cG sp_cPurse (fun h => lnN (fun q => h q.1.2.2.2)) (fun g2 => c_tail hI ⟨by omega, fun z => absurd z k2, fun _ => g1, g2⟩))⟩, fun k5 => lnN (fun q => by omega)⟩⟩⟩
  · obtain ⟨e3, e4, e5⟩ := mv_eq hI hρ
    obtain ⟨a1, a2, a3, a4⟩ := hA
    exact vm_X12_line _ _ _ _ _ _ _ _ ⟨fun k0 => cG (mvU e4 (by omega)) (fun h => absurd a4 h) (fun g2 => ⟨fun k2 => ⟨fun hw => cI hm (fun r s h => h), fun hw => absurd (a2 k2) hw⟩, fun k2 => cG (mvP e3 hnn) (fun h => absurd (a3 k2) h) (fun g1 => cI hm (fun r s h => h))⟩), fun k0 => ⟨fun kk2 => cG (mvU e4 (by omega)) (fun h => absurd a4 h) (fun g2 => ⟨fun k2 => ⟨fun hw => cI hm (fun r s h => h), fun hw => absurd (a2 k2) hw⟩, fun k2 => cG (mvP e3 hnn) (fun h => absurd (a3 k2) h) (fun g1 => cI hm (fun r s h => h))⟩), fun kk2 => ⟨fun k5 => cG (mvU e4 (by omega)) (fun h => absurd a4 h) (fun g2 => ⟨fun k2 => ⟨fun hw => cI hm (fun r s h => h), fun hw => absurd (a2 k2) hw⟩, fun k2 => cG (mvP e3 hnn) (fun h => absurd (a3 k2) h) (fun g1 => cI hm (fun r s h => h))⟩), fun k5 => absurd a1 (by omega)⟩⟩⟩
  · obtain ⟨e3, e4, e5⟩ := mv_eq hI (Or.inl Fr.rf)
    exact vm_X12_line _ _ _ _ _ _ _ _ ⟨fun k0 => cG (mvU e4 (by omega)) (fun h => ⟨rfl, rfl⟩) (fun g2 => ⟨fun k2 => ⟨fun hw => absurd ⟨by omega, fun _ => hw, fun z => absurd k2 z, g2⟩ hA, fun hw => ⟨rfl, rfl⟩⟩, fun k2 => cG (mvP e3 hnn) (fun h => ⟨rfl, rfl⟩) (fun g1 => absurd ⟨by omega, fun z => absurd z k2, fun _ => g1, g2⟩ hA)⟩), fun k0 => ⟨fun kk2 => cG (mvU e4 (by omega)) (fun h => ⟨rfl, rfl⟩) (fun g2 => ⟨fun k2 => ⟨fun hw => absurd ⟨by omega, fun _ => hw, fun z => absurd k2 z, g2⟩ hA, fun hw => ⟨rfl, rfl⟩⟩, fun k2 => cG (mvP e3 hnn) (fun h => ⟨rfl, rfl⟩) (fun g1 => absurd ⟨by omega, fun z => absurd z k2, fun _ => g1, g2⟩ hA)⟩), fun kk2 => ⟨fun k5 => cG (mvU e4 (by omega)) (fun h => ⟨rfl, rfl⟩) (fun g2 => ⟨fun k2 => ⟨fun hw => absurd ⟨by omega, fun _ => hw, fun z => absurd k2 z, g2⟩ hA, fun hw => ⟨rfl, rfl⟩⟩, fun k2 => cG (mvP e3 hnn) (fun h => ⟨rfl, rfl⟩) (fun g1 => absurd ⟨by omega, fun z => absurd z k2, fun _ => g1, g2⟩ hA)⟩), fun k5 => ⟨rfl, rfl⟩⟩⟩⟩
theorem pr_deal (hI : INV σ n G) (g p kk s dy f t : Int) (hg : g = 0 ∨ g = 1) : PR Ln 98 [vR 1, vI g, vI p, vI kk, vI s, vI dy, vI f, vI t] 147 [vR 82, vI g, vI p, vI kk, vI s, vI dy, vI f, vI t] σ := by
  have hP := hI.2.2.2.1.2.1
  have hT := hI.2.2.2.1.2.2.1
  have hz := hI.1.2.2.2.2.1
  refine pr_ln (A := (0 ≤ p ∧ p < σ 4 2) ∧ (0 ≤ kk ∧ kk < σ 1 12)) (k := if g = 0 then 3 else 4) (p := p) (w := kk) (s := s) (g := 0) (dy := dy) (f := f) (t := t) hI (fun hA => ⟨by split <;> omega, hA.1, fun _ => ⟨hA.2.1, by omega⟩, fun h => by split at h <;> omega, fun h => by split at h <;> omega, fun _ => hA.2.2⟩) ?_ (fun hA ρ P hρ hm => ?_) (fun hA => ?_)
  · refine vm_X11_deal _ _ _ _ _ _ _ _ (cG sp_cPurse (fun h => lnN (fun q => h q.1.1)) (fun g1 => cG sp_cThing (fun h => lnN (fun q => h q.1.2)) (fun g2 => cG sp_cSum (fun h => lnN (fun q => h q.2.1)) (fun g3 => c_dated (fun h => lnN (fun q => h q.2.2)) (fun g4 => ⟨fun e => ?_, fun e => ?_⟩)))))
    · rw [if_pos e]
      exact c_told hI.1.2.2.2.2.2.1 ⟨hz.1, g4.2.2.2⟩ (fun ρ h => ⟨fun _ => ⟨rfl, h⟩, fun q => absurd ⟨⟨g1, g2⟩, g3, g4⟩ q⟩)
    · rw [if_neg e]
      exact c_told hI.1.2.2.2.2.2.1 ⟨hz.1, g4.2.2.2⟩ (fun ρ h => ⟨fun _ => ⟨rfl, h⟩, fun q => absurd ⟨⟨g1, g2⟩, g3, g4⟩ q⟩)
  · obtain ⟨e3, e4, e5⟩ := mv_eq hI hρ
    refine vm_X12_deal _ _ _ _ _ _ _ _ (cG (mvU e4 (by omega)) (fun h => absurd hA.1 h) (fun _ => cG (mvT' e5 (by omega)) (fun h => absurd hA.2 h) (fun _ => ⟨fun e => ?_, fun e => ?_⟩)))
    · rw [if_pos e] at hm
      exact cI hm (fun r s h => h)
    · rw [if_neg e] at hm
      exact cI hm (fun r s h => h)
  · obtain ⟨e3, e4, e5⟩ := mv_eq hI (Or.inl Fr.rf)
    exact vm_X12_deal _ _ _ _ _ _ _ _ (cG (mvU e4 (by omega)) (fun h => ⟨rfl, rfl⟩) (fun g1 => cG (mvT' e5 (by omega)) (fun h => ⟨rfl, rfl⟩) (fun g2 => absurd ⟨g1, g2⟩ hA)))
end LN
