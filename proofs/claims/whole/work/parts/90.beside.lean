/-! another way beside -/
section BE
variable {Ln : Int} {σ : AS} {n : Nat} {G : Int → GF}
theorem fu_fo {q w : Int} (hw : 0 ≤ w ∧ w < 5) : ∀ p : Int, -1 ≤ fu fo0 q w p ∧ fu fo0 q w p ≤ 4 := by
  intro p
  unfold fu
  split
  · omega
  · show -1 ≤ (-1 : Int) ∧ (-1 : Int) ≤ 4; omega
theorem pr_beside (hI : INV σ n G) (p o q w : Int) : PR Ln 111 [vR 1, vI p, vI o, vI q, vI w] 222 [vR 82, vI p, vI o, vI q, vI w] σ := by
  have hn := INV_n hI
  have h10 : σ 1 11 ≤ 10 := by have := hI.1.2.1; have := hI.1.2.2.1; omega
  have hP := hI.2.2.2.1.2.1
  have hX := ruX_find (Ln := Ln) hI.2.2.1
  have hM := ruM_find (Ln := Ln) hI.1.1 hI.2.2.1 hI.1.2.1 hI.1.2.2.1
  have hlvS := OKB_lv hI.1
  obtain ⟨k, hk, hm, hmn⟩ := mAll_ok (F := findF σ G) (dd := σ 1 10) (t := σ 1 10) (fo := fu fo0 q w) hI.1
  obtain ⟨m, hmm⟩ : ∃ m, m = mpl σ (findF σ G) (σ 1 10) (fu fo0 q w) (lst σ (σ 1 10) (σ 1 10) (σ 7 11)) m0 := ⟨_, rfl⟩
  rw [← hmm] at hm hmn
  refine pr_ans (c := (0 ≤ p ∧ p < σ 4 2) ∧ (0 ≤ o ∧ o < σ 1 11) ∧ (0 ≤ q ∧ q < σ 4 2) ∧ (0 ≤ w ∧ w < 5)) (v := pof o (m.1 p)) (w := -1) (cs := clX) (fs := clF) (cs' := pmX) (fs' := pmF) hI ?_ (fun s hs => ?_) (by decide) (by decide)
  · refine vm_X11_beside _ _ _ _ _ (cG sp_cPurse (fun h => ansN (fun q => h q.1)) (fun g1 => cG sp_cPerson (fun h => ansN (fun q => h q.2.1)) (fun g2 => cG sp_cPurse (fun h => ansN (fun q => h q.2.2.1)) (fun g3 => cG sp_cWay (fun h => ansN (fun q => h q.2.2.2)) (fun g4 => cV (sp_list (C := σ) Fr.rf hI.1.2.2.2.2.1 (fun k a b => (hlvS k a b).1)) ?_)))))
    rintro s1 ⟨l1, l2, l3, l4, l5⟩
    have l7 := hI.1.2.2.2.2.1
    refine ⟨⟨g3.1, by omega⟩, ?_⟩
    obtain ⟨ρ, hρ⟩ : ∃ ρ, ρ = am_up s1 66 q w := ⟨_, rfl⟩
    rw [← hρ]
    have fρ : Fr [66] [] s1 ρ := by rw [hρ]; exact Fr.up Fr.rf (Or.inl (by decide))
    refine cV (sp_clear ρ) ?_
    rintro s2 ⟨c1, c2, c3, c4, c5⟩
    have e65 : s2 65 = s1 65 := by rw [c3.cell 65 (by decide), fρ.cell 65 (by decide)]
    have e7 : s2 40 7 = s1 40 7 := by rw [c3.fld 40 7 (by decide), fρ.fld 40 7 (by decide)]
    have f2 : Fr clX clF σ s2 := (l1.mo (by decide) (by decide)).tr ((fρ.mo (by decide) (by decide)).tr (c3.mo (by decide) (by decide)))
    have hls : rl (s2 40 7) (s2 65) = lst σ (σ 1 10) (σ 1 10) (σ 7 11) := by rw [e65, e7]; exact l5
    refine cV (sp_play (C := σ) (fo := fu fo0 q w) (t := σ 1 10) (n := s2 40 7) hX hI.1.2.2.2.1 (RX_0 c1 (fun o a b => (c4 o a b).2) c5) m0_MI (f2.mo (by decide) (by decide)) (by rw [c3.fld 40 9 (by decide), fρ.fld 40 9 (by decide)]; exact l2) (by omega) (fun p' a b => ⟨?_, fu_fo g4 p'⟩) (by omega) (by omega) (lst_lv hlvS hls) (by omega)) ?_
    · rw [c3.cell 66 (by decide), hρ, am_up_eq, l3 p' a b]; rfl
    · rintro s11 ⟨x1, x2, x3, -⟩
      have el : rl (s2 40 7 - 0) (fun x => s2 65 (0 + x)) = lst σ (σ 1 10) (σ 1 10) (σ 7 11) := by
        rw [← hls, show s2 40 7 - 0 = s2 40 7 by omega]
        exact rl_congr fun x _ _ => by rw [Int.zero_add]
      rw [el, ← hmm] at x1
      have hps := hm.2.1 p g1.1 (by omega)
      refine cI (sp_held (RX_T x1 hm x3) (by rw [x1.2.1 p g1.1 (by omega)]; omega)) ?_
      rintro r s12 ⟨y1, y2⟩
      refine ansY ⟨g1, g2, g3, g4⟩ ?_ (f2.tr ((x2.mo (by decide) (by decide)).tr (y2.mo (by decide) (by decide))))
      rw [y1, x1.2.1 p g1.1 (by omega), if_pos (by omega)]
  · have hf : Fr wkX wkF σ s := hs.mo (by decide) (by decide)
    have hB := hI.1.1
    have e2 : s 82 2 = σ 1 10 := by rw [hf.fld 82 2 (by decide)]; exact hB.2.2.2.1
    have h121 : ∀ p : Int, 0 ≤ p → p < 10 → s 121 p = -1 := by rw [hs.cell 121 (by decide)]; exact hI.2.2.2.1.2.2.2.2.2.2
    refine vm_X12_beside _ _ _ _ _ (cG (sp_mPurse hB hf (by omega)) (fun h => ansN (fun q => h q.1)) (fun g1 => cG (sp_mPerson hB hf hn) (fun h => ansN (fun q => h q.2.1)) (fun g2 => cG (sp_mPurse hB hf (by omega)) (fun h => ansN (fun q => h q.2.2.1)) (fun g3 => cG sp_mWay (fun h => ansN (fun q => h q.2.2.2)) (fun g4 => ?_)))))
    rw [e2]
    refine ⟨⟨g3.1, by omega⟩, ?_⟩
    obtain ⟨ρ, hρ⟩ : ∃ ρ, ρ = am_up s 121 q w := ⟨_, rfl⟩
    rw [← hρ]
    have fρ : Fr [121] [] s ρ := by rw [hρ]; exact Fr.up Fr.rf (Or.inl (by decide))
    refine cV (sp_mplays (d := 990) (dd := σ 1 10) (t := σ 1 10) (fo := fu fo0 q w) hI.1 hM (hf.tr (fρ.mo (by decide) (by decide))) (fun p' a b => ⟨?_, fu_fo g4 p'⟩)) ?_
    · rw [hρ, am_up_eq, h121 p' a b]; rfl
    · rintro s9 ⟨x1, x2⟩
      rw [← hmm] at x1
      obtain ⟨τ, hτ⟩ : ∃ τ, τ = am_up s9 121 q (-1) := ⟨_, rfl⟩
      rw [← hτ]
      have fτ : Fr [121] [] s9 τ := by rw [hτ]; exact Fr.up Fr.rf (Or.inl (by decide))
      have rτ : RM m τ := RM_fr x1 fτ (by decide)
      refine ⟨⟨g3.1, by omega⟩, cI (sp_of ⟨g1.1, by omega⟩ (RM_T rτ hm)) ?_⟩
      rintro r s10 ⟨y1, rfl⟩
      refine ansY ⟨g1, g2, g3, g4⟩ (by rw [y1, (rτ.1 p g1.1 (by omega)).1]) ?_
      intro c i hc hi
      by_cases e : c = 121
      · rw [e, hτ, am_up_eq, x2.cell 121 (by decide), hρ, am_up_eq]
        by_cases ei : i = q
        · rw [if_pos ei, ei, h121 q g3.1 (by omega)]
        · rw [if_neg ei, if_neg ei]
      · rw [hτ, am_up_ne e, x2 c i hc hi, hρ, am_up_ne e]
end BE
