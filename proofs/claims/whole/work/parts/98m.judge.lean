/-! judge -/
section JU
variable {Ln : Int} {C : AS} {n : Nat} {G : Int → GF}
theorem pr_judge (hI : INV C n G) (o r : Int) : PR Ln 116 [vR 1, vI o, vI r] 236 [vR 82, vI o, vI r] C := by
  have hch := hI.2.2.2.2.2.1
  have hP10 := hI.2.2.2.1.2.1
  have hT10 := hI.2.2.2.1.2.2.1
  have hn := INV_n hI
  have hn1 := hI.1.2.1
  have hn2 := hI.1.2.2.1
  obtain ⟨P, hP⟩ : ∃ P : Nat, C 4 2 = P := ⟨(C 4 2).toNat, by omega⟩
  obtain ⟨NT, hT⟩ : ∃ NT : Nat, C 1 12 = NT := ⟨(C 1 12).toNat, by omega⟩
  have hcc := cn0_bd (w := C 71) 10
  rw [← hch.2.2.1] at hcc
  obtain ⟨c, hc⟩ : ∃ c : Nat, C 70 4 = c := ⟨(C 70 4).toNat, by omega⟩
  have hc4 : c ≤ 4 := by have := hch.2.2.2; omega
  have h5 := p5_le hc4
  have hpp := p5_pos c
  have fin : ∀ v : Int, (okR C P r → v = wrR C G o P NT r) → (¬ okR C P r → v = -2) → PR Ln 116 [vR 1, vI o, vI r] 236 [vR 82, vI o, vI r] C := by
    intro v hv1 hv2
    refine pr_ansB (q := (0 ≤ o ∧ o < C 1 11) ∧ 0 ≤ r ∧ r < p5 c) (v := v) (w := -1) hI ?_ (fun s hs => ?_)
    · refine vm_X11_judge _ _ _ (cG sp_cPerson (fun h => ansN (fun z => h z.1)) (fun g1 => ⟨fun h => ansN (by omega), fun h0 => cI (sp_crows hc hc4) ?_⟩))
      rintro u s3 ⟨rfl, rfl⟩
      refine ⟨fun h1 => cV (sp_prepare (d := 991) (P := P) (c := c) hI Fr.rf hP hc) ?_, fun h => ansN (fun z => h z.2.2)⟩
      intro s5 hp
      have gg : (0 ≤ o ∧ o < s3 1 11) ∧ 0 ≤ r ∧ r < p5 c := ⟨g1, by omega, h1⟩
      have e704 : s5 70 4 = c := by rw [hp.1.fld 70 4 (by decide)]; exact hc
      refine cV (sp_spellF (d := 998) (r := r) (by omega) e704 hc4) ?_
      rintro s6 ⟨f, rfl, hf⟩
      have hs6 : srOK s3 s5 (zc s5 74 f) := ⟨Fr.cl Fr.rf (by decide), by rw [zc_ne (by decide)]; exact hp.2.2.2.2.2.2.2.2.2, fun p a b e => by rw [zc_ne (by decide)]; exact hp.2.2.1 p a b⟩
      have hrow : ∀ j : Nat, j < c → zc s5 74 f 74 j = dv r j % 5 := fun j a => by rw [zc_eq, hf j a]
      refine cI (sp_lawR (d := 997) hI hp hP hc hs6 hrow) ?_
      rintro u s7 ⟨rfl, y2⟩
      refine ⟨fun e => ?_, fun e => cI (sp_worth (d := 992) hI hp hP hT hc (by omega) hs6 hrow) ?_⟩
      · exact ansY gg (hv2 (fun z => absurd e (y2.mpr z))).symm (hp.1.tr (hs6.1.mo (by decide) (by decide)))
      · rintro w s9 ⟨w1, w2, w3⟩
        exact ansY gg (by rw [w1, hv1 (y2.mp e)]) (hp.1.tr (w2.1.mo (by decide) (by decide)))
    · have hw : Fr wkX wkF C s := hs.mo (by decide) (by decide)
      refine vm_X12_judge _ _ _ (cG (sp_mPerson hI.1.1 hw hn) (fun h => ⟨fun z => absurd z.1 h, fun _ => rfl, Fr.rf, neg1 hI hs⟩) (fun g1 => cI (sp_choosing hI hw) ?_))
      rintro u s2 ⟨rfl, rfl⟩
      rw [hc]
      refine cI (sp_mrows hc4) ?_
      rintro u s3 ⟨rfl, rfl⟩
      rw [w32_id (x := p5 c - 1) (by omega) (by omega)]
      refine cG sp_mlies (fun h => ⟨fun z => absurd (show 0 ≤ r ∧ r ≤ p5 c - 1 by omega) h, fun _ => rfl, Fr.rf, neg1 hI hs⟩) (fun g2 => cI (sp_laid (d := 997) hI hw (by omega) hP (fun x a b => neg1 hI hs x (by omega) b)) ?_)
      have gg : (0 ≤ o ∧ o < C 1 11) ∧ 0 ≤ r ∧ r < p5 c := ⟨g1, by omega⟩
      rintro u s4 ⟨b1, b2, f, rfl, hf⟩
      have f4 : Fr chX chF s3 (zc s3 121 f) := Fr.cl Fr.rf (by decide)
      refine ⟨fun e => cV sp_unlaid ?_, fun e => cI (sp_worthOf (d := 989) (fo := foR (C 71) r) hI (hw.cl (by decide)) (fun p a b => ⟨by rw [zc_eq]; exact hf p a b, foR_rg⟩) (by omega) hP hT) ?_⟩
      · rintro s5 ⟨g, rfl, hg⟩
        exact ⟨fun _ => (hv2 (fun z => b2.mpr z e)).symm, fun z => absurd gg z, f4.cl (by decide), fun x a b => by rw [zc_eq]; exact hg x a b⟩
      · rintro w s6 ⟨y1, y2⟩
        refine cV sp_unlaid ?_
        rintro s5 ⟨g, rfl, hg⟩
        exact ⟨fun _ => by rw [hv1 (b2.mp e)]; exact y1, fun z => absurd gg z, (f4.tr (y2.mo (by decide) (by decide))).cl (by decide), fun x a b => by rw [zc_eq]; exact hg x a b⟩
  by_cases hx : okR C P r
  · exact fin (wrR C G o P NT r) (fun _ => rfl) (fun h => absurd hx h)
  · exact fin (-2) (fun h => absurd h hx) (fun _ => rfl)
end JU
