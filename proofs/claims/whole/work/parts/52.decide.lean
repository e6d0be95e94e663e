/-! what the rules say of a line, ahead of it -/
theorem lv_fr {C σ : AS} {i : Int} (h : Fr wkX wkF C σ) : (lv C i ↔ lv σ i) := by
  unfold lv
  rw [h.cell 5 (by decide), h.cell 8 (by decide), h.cell 9 (by decide), h.cell 10 (by decide), h.cell 11 (by decide)]
theorem facF_fr {C σ : AS} {i : Int} {l : MP} (h : Fr wkX wkF C σ) : facF σ i l = facF C i l := by
  unfold facF
  rw [h.cell 5 (by decide), h.cell 8 (by decide), h.cell 9 (by decide), h.cell 11 (by decide), h.cell 13 (by decide)]
theorem RX_fr {m : MS} {σ σ' : AS} {cs : List Nat} {fs : List (Nat × Int)} (h : RX m σ) (hf : Fr cs fs σ σ') (hc : ∀ c ∈ [42, 43, 44, 45, 46, 47, 41], c ∉ cs) (h3 : (41, 3) ∉ fs) (hfs : ∀ q ∈ fs, q.1 ∉ [42, 43, 44, 45, 46, 47]) : RX m σ' := by
  have e : ∀ c ∈ [42, 43, 44, 45, 46, 47], σ' c = σ c := fun c hm => hf.cell c ⟨hc c (by revert hm; simp; omega), fun q => by obtain ⟨x, hx, rfl⟩ := List.mem_map.mp q; exact hfs x hx hm⟩
  have e3 : σ' 41 3 = σ 41 3 := hf.fld 41 3 ⟨hc 41 (by decide), h3⟩
  obtain ⟨h1, h2, h4, h5⟩ := h
  refine ⟨?_, fun p a b => ?_, ?_, ?_⟩
  · unfold XW
    rw [e 42 (by decide), e 43 (by decide), e 44 (by decide), e 45 (by decide), e3]
    exact h1
  · rw [← h2 p a b]
    unfold xp xl
    rw [e 42 (by decide), e 43 (by decide), e 44 (by decide), e3]
  · rw [e 46 (by decide)]; exact h4
  · rw [e 47 (by decide)]; exact h5
def xdec (C : AS) (F : FD) (t : Int) (fo : Int → Int) (i : Int) (m : MS) (σ σ' : AS) : Prop := Fr [36, 37, 38, 51] [(40, 10), (40, 11), (40, 12)] σ σ' ∧ (tkD (C 8 i) = true → σ' 40 10 = wayF C F t fo i (m.1 (C 9 i)) ∧ 0 ≤ σ' 40 10 ∧ σ' 40 10 ≤ 4) ∧ (C 8 i = 4 → σ' 40 11 = risF C F t i (m.1 (C 9 i))) ∧ (C 8 i = 1 → σ' 40 12 = endF C F t i (m.1 (C 9 i)))
theorem sp_decide {Ln : Int} {d : Nat} {C σ : AS} {F : FD} {m : MS} {k i t : Int} {fo : Int → Int} (hr : RX m σ) (hm : MI k m) (h9 : 0 ≤ σ 41 9) (hf : Fr wkX wkF C σ) (hl : lv C i) (hF : ruX Ln C F) (ht : σ 40 9 = t) (hfo : ∀ p : Int, 0 ≤ p → p < 10 → σ 66 p = fo p ∧ -1 ≤ fo p ∧ fo p ≤ 4) :
    am_M Ln (d + 4) 37 [vR 40, vI i] σ (am_rV (xdec C F t fo i m σ)) := by
  have hls := (lv_fr hf).mp hl
  obtain ⟨l1, l2, l3, l4, l5, l6, l7⟩ := hl
  have e6 := hf.cell 6 (by decide)
  have e8 := hf.cell 8 (by decide)
  have e9 := hf.cell 9 (by decide)
  have e10 := hf.cell 10 (by decide)
  have e12 := hf.cell 12 (by decide)
  have e13 := hf.cell 13 (by decide)
  have e31 := hf.cell 31 (by decide)
  obtain ⟨τ, hτ⟩ : ∃ τ, τ = am_up (am_up (am_up σ 40 10 (-1)) 40 11 0) 40 12 0 := ⟨_, rfl⟩
  have fτ : Fr [36, 37, 38, 51] [(40, 10), (40, 11), (40, 12)] σ τ := by rw [hτ]; exact Fr.up (Fr.up (Fr.up Fr.rf (Or.inr (by decide))) (Or.inr (by decide))) (Or.inr (by decide))
  have hrτ : RX m τ := RX_fr hr fτ (by decide) (by decide) (by decide)
  have hfτ : Fr wkX wkF C τ := hf.tr (fτ.mo (by decide) (by decide))
  have hlτ := (lv_fr hfτ).mp ((lv_fr hf).mpr hls)
  have h9τ : 0 ≤ τ 41 9 := by rw [fτ.fld 41 9 (by decide)]; exact h9
  have t11 : τ 40 11 = 0 := by rw [hτ, am_up_eq, if_neg (by decide), am_up_eq, if_pos rfl]
  have t12 : τ 40 12 = 0 := by rw [hτ, am_up_eq, if_pos rfl]
  have d9 := hfτ.cell 9 (by decide)
  refine vm_X6_decide _ _ ⟨am_b0, am_b0, l1, l1, l1, fun k4 => ?_, fun k4 => ?_⟩
  · rw [e8] at k4
    rw [← hτ]
    refine cV (sp_gatherFacts hrτ hm h9τ hlτ) ?_
    rintro s1 ⟨g1, g2⟩
    have fs1 : Fr wkX wkF C s1 := hfτ.tr (g1.mo (by decide) (by decide))
    refine ⟨by rw [e9]; exact l3, ?_⟩
    have s9 : s1 40 9 = t := by rw [g1.fld 40 9 (by decide), fτ.fld 40 9 (by decide), ht]
    refine cI (hF _ s1 114 _ _ _ (facF C i (m.1 (C 9 i))) (Or.inl rfl) fs1 (fun j a b => ?_)) ?_
    · rw [g2 j a b, facF_fr hfτ, d9]
    · rintro r s2 ⟨r1, r2, -, r3⟩
      rw [fs1.cell 6 (by decide), e9, e13, s9] at r1
      have fr2 : Fr [36, 37, 38, 51] [(40, 10), (40, 11), (40, 12)] σ s2 := fτ.tr ((g1.mo (by decide) (by decide)).tr (r3.mo (by decide) (by decide)))
      refine ⟨fun h => ⟨am_b0, ?_⟩, fun h => ⟨am_b1, ?_⟩⟩
      · refine ⟨Fr.up fr2 (Or.inr (by decide)), fun q => absurd (tkD_iff.mp q) (by omega), fun _ => ?_, fun q => absurd q (by omega)⟩
        rw [am_up_eq, if_pos rfl, risF, if_neg (fun q => q.2 (by rw [← r1]; exact h))]
      · refine ⟨Fr.up fr2 (Or.inr (by decide)), fun q => absurd (tkD_iff.mp q) (by omega), fun _ => ?_, fun q => absurd q (by omega)⟩
        rw [am_up_eq, if_pos rfl, risF, if_pos ⟨k4, by rw [← r1]; exact h⟩]
  · rw [e8] at k4
    rw [← hτ]
    refine cI (sp_takes l1) ?_
    rintro r s4 ⟨rfl, rfl⟩
    rw [hfτ.cell 8 (by decide)]
    refine ⟨fun h => ?_, fun h => ?_⟩
    · refine ⟨fτ, fun q => absurd h (by rw [if_pos q]; decide), fun q => absurd q k4, fun q => absurd h (by rw [if_pos (tkD_iff.mpr (Or.inl q))]; decide)⟩
    · have htk : tkD (C 8 i) = true := by
        by_cases q : tkD (C 8 i) = true
        · exact q
        · rw [if_neg q] at h; exact absurd rfl h
      refine cV (sp_gatherFacts hrτ hm h9τ hlτ) ?_
      rintro s6 ⟨g1, g2⟩
      have fs6 : Fr wkX wkF C s6 := hfτ.tr (g1.mo (by decide) (by decide))
      have fr6 : Fr [36, 37, 38, 51] [(40, 10), (40, 11), (40, 12)] σ s6 := fτ.tr (g1.mo (by decide) (by decide))
      have s66 : s6 66 (C 9 i) = fo (C 9 i) := by rw [fr6.cell 66 (by decide)]; exact (hfo _ l3.1 l3.2).1
      have hfop := (hfo _ l3.1 l3.2).2
      -- behind the way: whether knowing ends the money
      have tail : ∀ (s : AS) (w : Int), Fr [36, 37, 38, 51] [(40, 10), (40, 11), (40, 12)] σ s → (∀ j : Int, 0 ≤ j → j < 8 → s 38 j = facF C i (m.1 (C 9 i)) j) → s 40 12 = 0 → w = wayF C F t fo i (m.1 (C 9 i)) → 0 ≤ w ∧ w ≤ 4 →
          (s 8 i = 1 → (0 ≤ i ∧ i < 100) ∧ ((s 12 i = 0 → am_rV (xdec C F t fo i m σ) none (am_up s 40 10 w)) ∧ (¬ (s 12 i = 0) → (0 ≤ i ∧ i < 100) ∧ ((0 ≤ s 10 i ∧ s 10 i < 10) ∧ (∃ T : Option AV → AS → Prop, am_M Ln (d + 3) 49 [vR 24, vI 103, vI (s 6 (s 10 i)), vI (σ 13 i), vI (s 40 9)] (am_up s 40 10 w) T ∧ ∀ (r10 : Int) s9, T (some (vI r10)) s9 →
            (r10 = (-1) → am_b 0 ∧ (am_rV (xdec C F t fo i m σ) none (am_up s9 40 12 0))) ∧ (¬ (r10 = (-1)) → am_b 1 ∧ (am_rV (xdec C F t fo i m σ) none (am_up s9 40 12 1)))))))) ∧
          (¬ (s 8 i = 1) → am_rV (xdec C F t fo i m σ) none (am_up s 40 10 w)) := by
        intro s w f1 f2 f3 f4 f5
        have fC : Fr wkX wkF C s := hf.tr (f1.mo (by decide) (by decide))
        have fu1 : Fr [36, 37, 38, 51] [(40, 10), (40, 11), (40, 12)] σ (am_up s 40 10 w) := Fr.up f1 (Or.inr (by decide))
        rw [fC.cell 8 (by decide), fC.cell 12 (by decide), fC.cell 10 (by decide), fC.cell 6 (by decide), e13, f1.fld 40 9 (by decide), ht]
        have u10 : am_up s 40 10 w 40 10 = w := by rw [am_up_eq, if_pos rfl]
        have u12 : am_up s 40 10 w 40 12 = 0 := by rw [am_up_eq, if_neg (by decide)]; exact f3
        refine ⟨fun k1 => ⟨l1, fun k2 => ⟨fu1, fun _ => by rw [u10]; exact ⟨f4, f5⟩, fun q => absurd q k4, fun _ => ?_⟩, fun k2 => ⟨l1, l5 (by omega), ?_⟩⟩, fun k1 => ⟨fu1, fun _ => by rw [u10]; exact ⟨f4, f5⟩, fun q => absurd q k4, fun q => absurd q k1⟩⟩
        · rw [u12, endF, if_neg (fun q => q.2.1 k2)]
        · refine cI (hF _ _ 103 _ _ _ (facF C i (m.1 (C 9 i))) (Or.inr (Or.inr rfl)) (hf.tr (fu1.mo (by decide) (by decide))) (fun j a b => ?_)) ?_
          · rw [am_up_ne (by decide)]; exact f2 j a b
          · rintro r s2 ⟨r1, r2, -, r3⟩
            have v10 : s2 40 10 = w := by rw [r3.fld 40 10 (by decide)]; exact u10
            have fr2 : Fr [36, 37, 38, 51] [(40, 10), (40, 11), (40, 12)] σ s2 := fu1.tr (r3.mo (by decide) (by decide))
            refine ⟨fun h => ⟨am_b0, Fr.up fr2 (Or.inr (by decide)), fun _ => ?_, fun q => absurd q k4, fun _ => ?_⟩, fun h => ⟨am_b1, Fr.up fr2 (Or.inr (by decide)), fun _ => ?_, fun q => absurd q k4, fun _ => ?_⟩⟩
            · rw [am_up_eq, if_neg (by decide), v10]; exact ⟨f4, f5⟩
            · rw [am_up_eq, if_pos rfl, endF, if_neg (fun q => q.2.2 (by rw [← r1]; exact h))]
            · rw [am_up_eq, if_neg (by decide), v10]; exact ⟨f4, f5⟩
            · rw [am_up_eq, if_pos rfl, endF, if_pos ⟨k1, k2, by rw [← r1]; exact h⟩]
      have g2' : ∀ j : Int, 0 ≤ j → j < 8 → s6 38 j = facF C i (m.1 (C 9 i)) j := fun j a b => by rw [g2 j a b, facF_fr hfτ, d9]
      have g12 : s6 40 12 = 0 := by rw [g1.fld 40 12 (by decide), t12]
      refine ⟨by rw [e9]; exact l3, fun hn => ?_, fun hn => ?_⟩
      · rw [e9, s66] at hn
        refine ⟨by rw [e9]; exact l3, ?_⟩
        refine cI (hF _ _ 119 _ _ _ (facF C i (m.1 (C 9 i))) (Or.inr (Or.inl rfl)) (Fr.up fs6 (Or.inr (by decide))) (fun j a b => ?_)) ?_
        · rw [am_up_ne (by decide)]; exact g2' j a b
        · rintro r s7 ⟨r1, r2, r4, r3⟩
          have r1' := r1
          rw [fs6.cell 6 (by decide), e9, e13, fr6.fld 40 9 (by decide), ht] at r1
          have fr7 : Fr [36, 37, 38, 51] [(40, 10), (40, 11), (40, 12)] σ s7 := (Fr.up fr6 (Or.inr (by decide))).tr (r3.mo (by decide) (by decide))
          have f38 : ∀ j : Int, 0 ≤ j → j < 8 → s7 38 j = facF C i (m.1 (C 9 i)) j := fun j a b => by rw [r3.cell 38 (by decide), am_up_ne (by decide)]; exact g2' j a b
          have f12 : s7 40 12 = 0 := by rw [r3.fld 40 12 (by decide), am_up_eq, if_neg (by decide)]; exact g12
          refine ⟨fun hz => ⟨l1, ?_⟩, fun hz => ⟨by omega, l1, ?_⟩⟩
          · exact tail s7 0 fr7 f38 f12 (by rw [wayF, if_pos hn, if_pos (by rw [← r1]; exact hz)]) (by omega)
          · have e7 : s7 31 = C 31 := (hf.tr (fr7.mo (by decide) (by decide))).cell 31 (by decide)
            refine tail s7 (s7 31 r) fr7 f38 f12 ?_ ?_
            · rw [wayF, if_pos hn, if_neg (by rw [← r1]; exact hz), e7, r1]
            · rw [e7]; exact r4 rfl hz
      · rw [e9, s66] at hn
        refine ⟨l1, ?_⟩
        rw [e9, s66]
        exact tail s6 (fo (C 9 i)) fr6 g2' g12 (by rw [wayF, if_neg hn]) (by omega)
