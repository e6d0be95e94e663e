/-! best, chosen, judge -/
section BE
variable {Ln : Int} {d : Nat} {C s1 : AS} {n P NT c : Nat} {G : Int → GF} {o : Int}
theorem lp_search (hI : INV C n G) (hp : PST C (findF C G) (C 1 10) P c s1) (hP : C 4 2 = P) (hT : C 1 12 = NT) (hc : C 70 4 = c) (ho : 0 ≤ o ∧ o < 10) : ∀ (m : Nat) (N : Int) (s : AS), N + m = p5 c → 0 ≤ N → srOK C s1 s → bestX (okR C P) (wrR C G o P NT) c N s →
    am_E Ln (d + 7) 7 18 [vR 70, vI o, vU, vI (p5 c), vI N, vU] [] s (am_rV fun s' => srOK C s1 s' ∧ bestX (okR C P) (wrR C G o P NT) c (p5 c) s') := by
  have hch := hI.2.2.2.2.2.1
  have hP10 := hI.2.2.2.1.2.1
  have hT10 := hI.2.2.2.1.2.2.1
  have hc4 : c ≤ 4 := by have := hch.2.2.2; omega
  have h5 := p5_le hc4
  intro m
  induction m with
  | zero =>
    intro N s hN h0 hs hb
    obtain rfl : N = p5 c := by omega
    exact vl_X0_search_18 _ _ _ _ ⟨fun _ => ⟨hs, hb⟩, fun h => absurd (Int.le_refl _) h⟩
  | succ m ih =>
    intro N s hN h0 hs hb
    have e704 : s 70 4 = c := by rw [hs.1.fld 70 4 (by decide), hp.1.fld 70 4 (by decide)]; exact hc
    refine vl_X0_search_18 _ _ _ _ ⟨fun h => absurd h (by omega), fun _ => cV (sp_spellL (d := d + 6) (r := N) (by omega) e704 hc4) ?_⟩
    rintro s2 ⟨f, rfl, hf⟩
    have hs2 : srOK C s1 (zc s 74 f) := ⟨hs.1.cl (by decide), by rw [zc_ne (by decide)]; exact hs.2.1, fun p a b e => by rw [zc_ne (by decide)]; exact hs.2.2 p a b e⟩
    have hrow : ∀ j : Nat, j < c → zc s 74 f 74 j = dv (rv c N) j % 5 := fun j a => by
      rw [zc_eq, hf j a, rv_dg hc4 h0 (by omega) a]
    have e70 : zc s 74 f 70 = s 70 := zc_ne (by decide)
    have e75 : zc s 74 f 75 = s 75 := zc_ne (by decide)
    rw [w32_id (x := N + 1) (by omega) (by omega)]
    refine cI (sp_lawR (d := d + 5) hI hp hP hc hs2 hrow) ?_
    rintro v s3 ⟨rfl, y2⟩
    refine ⟨fun e => ?_, fun e => cI (sp_worth (d := d) hI hp hP hT hc ho hs2 hrow) ?_⟩
    · have hno : ¬ okR C P (rv c N) := fun z => absurd e (y2.mpr z)
      refine ih (N + 1) _ (by omega) (by omega) hs2 ?_
      unfold bestX at hb ⊢
      rw [e70, e75]
      rcases hb with ⟨b1, b2⟩ | ⟨n0, b1, b2, b3, b4, b5⟩
      · refine Or.inl ⟨b1, fun x x0 x1 => ?_⟩
        by_cases z : x = N
        · rw [z]; exact hno
        · exact b2 x x0 (by omega)
      · refine Or.inr ⟨n0, ⟨b1.1, by omega⟩, b2, b3, b4, fun x x0 x1 xo => ?_⟩
        by_cases z : x = N
        · rw [z] at xo; exact absurd xo hno
        · exact b5 x x0 (by omega) xo
    · have hok : okR C P (rv c N) := y2.mp e
      rintro w s4 ⟨w1, w2, w3⟩
      have q7010 : s4 70 10 = s 70 10 := by rw [w3.fld 70 10 (by decide), e70]
      have q75 : s4 75 = s 75 := (w3.cell 75 (by decide)).trans e75
      have q74 : s4 74 = zc s 74 f 74 := w3.cell 74 (by decide)
      have hnn := wrR_nn (G := G) hI ho (show P ≤ 10 by omega) (show NT ≤ 10 by omega) (rv c N)
      rw [q7010]
      refine ⟨fun z => ?_, fun z => ⟨by decide, ?_⟩⟩
      · refine ih (N + 1) _ (by omega) (by omega) w2 ?_
        unfold bestX at hb ⊢
        rw [q7010, q75]
        rcases hb with ⟨b1, b2⟩ | ⟨n0, b1, b2, b3, b4, b5⟩
        · rw [b1, w1] at z; omega
        · refine Or.inr ⟨n0, ⟨b1.1, by omega⟩, b2, b3, b4, fun x x0 x1 xo => ?_⟩
          by_cases zz : x = N
          · rw [zz]; omega
          · exact b5 x x0 (by omega) xo
      · have hs5 : srOK C s1 (am_cpy (am_up s4 70 10 w) 74 75 0 0 4) := ⟨Fr.cpy (Fr.up w2.1 (Or.inr (by decide))) (by decide), by rw [am_cpy_ne (by decide), am_up_ne (by decide)]; exact w2.2.1, fun p a b e => by rw [am_cpy_ne (by decide), am_up_ne (by decide)]; exact w2.2.2 p a b e⟩
        refine ih (N + 1) _ (by omega) (by omega) hs5 (Or.inr ⟨N, by omega, hok, ?_, fun j a => ?_, fun x x0 x1 xo => ?_⟩)
        · rw [am_cpy_ne (by decide), am_up_eq, if_pos rfl, w1]
        · rw [cpy_in (by omega) (by omega), am_up_ne (by decide), q74]; exact hrow j a
        · by_cases zz : x = N
          · rw [zz]; exact Or.inr ⟨rfl, Int.le_refl _⟩
          · unfold bestX at hb
            rcases hb with ⟨b1, b2⟩ | ⟨n0, b1, b2, b3, b4, b5⟩
            · exact absurd xo (b2 x x0 (by omega))
            · have := b5 x x0 (by omega) xo
              rw [b3, w1] at z
              exact Or.inl (by omega)
/-- what the class finds -/
theorem sp_search (hI : INV C n G) (hP : C 4 2 = P) (hT : C 1 12 = NT) (hc : C 70 4 = c) (ho : 0 ≤ o ∧ o < 10) :
    am_M Ln (d + 9) 7 [vR 70, vI o, vI (C 1 10)] C (am_rV fun s' => Fr prX prF C s' ∧ ((s' 70 10 = -1 ∧ ∀ r : Int, 0 ≤ r → r < p5 c → ¬ okR C P r) ∨ ∃ b, bstM (okR C P) (wrR C G o P NT) c (p5 c) b ∧ s' 70 10 = wrR C G o P NT b ∧ ∀ j : Nat, j < c → s' 75 j = dv b j % 5)) := by
  have hch := hI.2.2.2.2.2.1
  have hc4 : c ≤ 4 := by have := hch.2.2.2; omega
  have hpp := p5_pos c
  refine vm_X0_search _ _ _ (cV (sp_prepare (d := d) (P := P) (c := c) hI Fr.rf hP hc) ?_)
  intro s1 hp
  have e704 : (am_up s1 70 10 (-1)) 70 4 = c := by rw [am_up_eq, if_neg (by decide), hp.1.fld 70 4 (by decide)]; exact hc
  refine cI (sp_crows e704 hc4) ?_
  rintro v s2 ⟨rfl, rfl⟩
  have h0 : srOK C s1 (am_up s1 70 10 (-1)) := ⟨Fr.up Fr.rf (Or.inr (by decide)), by rw [am_up_ne (by decide)]; exact hp.2.2.2.2.2.2.2.2.2, fun p a b _ => by rw [am_up_ne (by decide)]; exact hp.2.2.1 p a b⟩
  refine am_EV (lp_search (d := d + 1) hI hp hP hT hc ho (p5 c).toNat 0 _ (by omega) (by omega) h0 (Or.inl ⟨by rw [am_up_eq, if_pos rfl], fun x a b => absurd b (by omega)⟩)) ?_
  rintro s' ⟨z1, z2⟩
  refine ⟨hp.1.tr (z1.1.mo (by decide) (by decide)), ?_⟩
  have hrr : ∀ r : Int, 0 ≤ r → r < p5 c → rv c (rv c r) = r := fun r a b => rv_rv hc4 a b
  rcases z2 with ⟨b1, b2⟩ | ⟨n0, b1, b2, b3, b4, b5⟩
  · refine Or.inl ⟨b1, fun r a b => ?_⟩
    have := b2 (rv c r) (rv_rg c r).1 (rv_rg c r).2
    rw [hrr r a b] at this
    exact this
  · refine Or.inr ⟨rv c n0, ⟨rv_rg c n0, b2, fun r a b ok => ?_⟩, b3, b4⟩
    have := b5 (rv c r) (rv_rg c r).1 (rv_rg c r).2 (by rw [hrr r a b]; exact ok)
    rw [hrr r a b] at this
    rw [hrr n0 b1.1 b1.2]
    exact this
theorem bstM_un {ok : Int → Prop} {W : Int → Int} (hc : c ≤ 4) {a b : Int} (ha : bstM ok W c (p5 c) a) (hb : bstM ok W c (p5 c) b) : a = b := by
  have h1 := ha.2.2 b hb.1.1 hb.1.2 hb.2.1
  have h2 := hb.2.2 a ha.1.1 ha.1.2 ha.2.1
  have h3 : rv c a = rv c b := by omega
  rw [← rv_rv hc ha.1.1 ha.1.2, h3, rv_rv hc hb.1.1 hb.1.2]
/-- the others are again as they were -/
theorem INV_121 {σ σ' : AS} {cs : List Nat} {fs : List (Nat × Int)} (hI : INV σ n G) (hf : Fr (121 :: cs) fs σ σ') (h : ∀ x : Int, 0 ≤ x → x < 10 → σ' 121 x = -1) (hd : dsj cs fs IVC IVF = true) (h12 : 121 ∉ fs.map Prod.fst) : INV σ' n G := by
  have f1 : Fr cs fs σ (zc σ' 121 (σ 121)) := fun c i a b => by
    by_cases e : c = 121
    · rw [e, zc_eq]
    · rw [zc_ne e]
      exact hf c i (by simp only [List.mem_cons, not_or]; exact ⟨e, a⟩) b
  obtain ⟨h1, h2, h3, h4, h5, h6, h7, h8⟩ := INV_fr hI f1 hd
  have fτ : Fr [121] [] (zc σ' 121 (σ 121)) σ' := fun c i a b => by
    rw [zc_ne (by simpa using a)]
  refine ⟨OKB_cg (fτ.cs _ (by decide)) (fτ.fls _ (by decide)) h1, OKD_cg (fτ.cell 13 (by decide)) (fτ.fld 7 11 (by decide)) h2, RB_cg (fτ.cs RBC (by decide)) (fτ.fld 24 14 (by decide)) h3, ?_, TP_cg (fτ.cell 3 (by decide)) (fτ.cell 83 (by decide)) (fτ.fld 2 1 (by decide)) h5, CH_cg (fτ.cell 71 (by decide)) (fτ.cell 129 (by decide)) (fτ.fld 4 2 (by decide)) (fτ.fld 70 4 (by decide)) h6, BA_cg (fτ.cs BAC (by decide)) (fτ.fld 70 6 (by decide)) h7, DE_cg (fτ.cs DEC (by decide)) (fτ.fld 76 3 (by decide)) h8.1, TH_cg (fτ.fld 7 11 (by decide)) (Int.le_of_eq (fτ.fld 1 12 (by decide)).symm) (fτ.cell 8 (by decide)) (fτ.cell 10 (by decide)) (fτ.cell 14 (by decide)) (fτ.cell 15 (by decide)) h8.2⟩
  obtain ⟨u1, u2, u3, u4, u5, u6, -⟩ := h4
  unfold NU
  rw [fτ.fld 1 10 (by decide), fτ.fld 4 2 (by decide), fτ.fld 1 12 (by decide), fτ.fld 19 4 (by decide), fτ.cell 5 (by decide)]
  exact ⟨u1, u2, u3, u4, u5, u6, h⟩
/-- two questions with the same answer, where the model has laid rows -/
theorem pr_ansB {mx mm : Nat} {ax am : List AV} {q : Prop} {v w : Int} (hI : INV C n G) (h1 : am_M Ln 1000 mx ax C (am_rI (ansF prX prF C q v w))) (h2 : ∀ s, Fr prX prF C s → am_M Ln 1000 mm am s (am_rI fun r s' => (q → r = v) ∧ (¬ q → r = w) ∧ Fr chX chF s s' ∧ ∀ x : Int, 0 ≤ x → x < 10 → s' 121 x = -1)) : PR Ln mx ax mm am C := by
  refine am_MI h1 ?_
  rintro r s ⟨a1, a2, a3⟩
  refine ⟨a3.cell 0 (by decide), am_MI (h2 s a3) ?_⟩
  rintro r' s' ⟨b1, b2, b3, b4⟩
  refine ⟨?_, (b3.cell 0 (by decide)).trans (a3.cell 0 (by decide)), n, G, INV_121 (INV_fr hI a3 (by decide)) b3 b4 (by decide) (by decide)⟩
  by_cases z : q
  · rw [a1 z, b1 z]
  · rw [a2 z, b2 z]
theorem neg1 (hI : INV C n G) {s : AS} (hs : Fr prX prF C s) : ∀ x : Int, 0 ≤ x → x < 10 → s 121 x = -1 := fun x a b => by
  rw [hs.cell 121 (by decide)]; exact hI.2.2.2.1.2.2.2.2.2.2 x a b
theorem pr_best (hI : INV C n G) (o : Int) : PR Ln 114 [vR 1, vI o] 234 [vR 82, vI o] C := by
  have hch := hI.2.2.2.2.2.1
  have hP10 := hI.2.2.2.1.2.1
  have hT10 := hI.2.2.2.1.2.2.1
  have hn := INV_n hI
  have hn1 := hI.1.2.1
  have hn2 := hI.1.2.2.1
  obtain ⟨P, hP⟩ : ∃ P : Nat, C 4 2 = P := ⟨(C 4 2).toNat, by omega⟩
  obtain ⟨NT, hT⟩ : ∃ NT : Nat, C 1 12 = NT := ⟨(C 1 12).toNat, by omega⟩
  have hcc := cn0_bd (w := C 71) 10
  rw [← hch.2.2.1] at hcc
  obtain ⟨c, hc⟩ : ∃ c : Nat, C 70 4 = c := ⟨(C 70 4).toNat, by omega⟩
  have hc4 : c ≤ 4 := by have := hch.2.2.2; omega
  have fin : ∀ v : Int, ((∀ r : Int, 0 ≤ r → r < p5 c → ¬ okR C P r) → v = -1) → (∀ b, bstM (okR C P) (wrR C G o P NT) c (p5 c) b → v = wrR C G o P NT b) → PR Ln 114 [vR 1, vI o] 234 [vR 82, vI o] C := by
    intro v hv1 hv2
    refine pr_ansB (q := 0 ≤ o ∧ o < C 1 11) (v := v) (w := -1) hI ?_ (fun s hs => ?_)
    · refine vm_X11_best _ _ (cG sp_cPerson (fun h => ansN h) (fun g1 => cV (sp_search (d := 990) hI hP hT hc (by omega)) ?_))
      rintro s3 ⟨x1, x2⟩
      refine ansY g1 ?_ x1
      rcases x2 with ⟨y1, y2⟩ | ⟨b, y1, y2, y3⟩
      · rw [y1, hv1 y2]
      · rw [y2, hv2 b y1]
    · have hw : Fr wkX wkF C s := hs.mo (by decide) (by decide)
      refine vm_X12_best _ _ (cG (sp_mPerson hI.1.1 hw hn) (fun h => ⟨fun z => absurd z h, fun _ => rfl, Fr.rf, neg1 hI hs⟩) (fun g1 => cI (sp_chooses (d := 987) hI hP hT hc (by omega) hw (hs.cell 121 (by decide))) ?_))
      rintro u s3 ⟨x1, x2, x3⟩
      rcases x3 with ⟨y1, y2⟩ | ⟨y1, y2, y3⟩
      · exact ⟨fun _ => ⟨fun _ => (hv1 y2).symm, fun z => absurd g1 z, x1, x2⟩, fun z => absurd y1 z⟩
      · exact ⟨fun z => absurd z (by omega), fun _ => ⟨fun _ => by rw [y3, hv2 _ y2], fun z => absurd g1 z, x1, x2⟩⟩
  by_cases hx : ∃ b, bstM (okR C P) (wrR C G o P NT) c (p5 c) b
  · obtain ⟨b, hb⟩ := hx
    exact fin (wrR C G o P NT b) (fun h => absurd hb.2.1 (h b hb.1.1 hb.1.2)) (fun b' hb' => by rw [bstM_un hc4 hb hb'])
  · exact fin (-1) (fun _ => rfl) (fun b hb => absurd ⟨b, hb⟩ hx)
theorem pr_chosen (hI : INV C n G) (o i : Int) : PR Ln 115 [vR 1, vI o, vI i] 235 [vR 82, vI o, vI i] C := by
  have hch := hI.2.2.2.2.2.1
  have hP10 := hI.2.2.2.1.2.1
  have hT10 := hI.2.2.2.1.2.2.1
  have hn := INV_n hI
  have hn1 := hI.1.2.1
  have hn2 := hI.1.2.2.1
  obtain ⟨P, hP⟩ : ∃ P : Nat, C 4 2 = P := ⟨(C 4 2).toNat, by omega⟩
  obtain ⟨NT, hT⟩ : ∃ NT : Nat, C 1 12 = NT := ⟨(C 1 12).toNat, by omega⟩
  have hcc := cn0_bd (w := C 71) 10
  rw [← hch.2.2.1] at hcc
  obtain ⟨c, hc⟩ : ∃ c : Nat, C 70 4 = c := ⟨(C 70 4).toNat, by omega⟩
  have hc4 : c ≤ 4 := by have := hch.2.2.2; omega
  have h5 := p5_le hc4
  have fin : ∀ v : Int, ((∀ r : Int, 0 ≤ r → r < p5 c → ¬ okR C P r) → v = -1) → (∀ b, bstM (okR C P) (wrR C G o P NT) c (p5 c) b → v = dv b i.toNat % 5) → PR Ln 115 [vR 1, vI o, vI i] 235 [vR 82, vI o, vI i] C := by
    intro v hv1 hv2
    refine pr_ansB (q := (0 ≤ o ∧ o < C 1 11) ∧ 0 ≤ i ∧ i < C 70 4) (v := v) (w := -1) hI ?_ (fun s hs => ?_)
    · refine vm_X11_chosen _ _ _ (cG sp_cPerson (fun h => ansN (fun z => h z.1)) (fun g1 => ⟨fun h => ansN (by omega), fun h0 => ⟨fun h1 => cV (sp_search (d := 990) hI hP hT hc (by omega)) ?_, fun h => ansN (fun z => h z.2.2)⟩⟩))
      rintro s3 ⟨x1, x2⟩
      have gg : (0 ≤ o ∧ o < C 1 11) ∧ 0 ≤ i ∧ i < C 70 4 := ⟨g1, by omega, h1⟩
      rcases x2 with ⟨y1, y2⟩ | ⟨b, y1, y2, y3⟩
      · exact ⟨fun _ => ansY gg (hv1 y2).symm x1, fun z => absurd y1 z⟩
      · have hnn := wrR_nn (G := G) hI (show 0 ≤ o ∧ o < 10 by omega) (show P ≤ 10 by omega) (show NT ≤ 10 by omega) b
        refine ⟨fun z => absurd z (by omega), fun _ => ⟨by omega, ansY gg ?_ x1⟩⟩
        have := y3 i.toNat (by omega)
        rw [show ((i.toNat : Nat) : Int) = i by omega] at this
        rw [this, hv2 b y1]
    · have hw : Fr wkX wkF C s := hs.mo (by decide) (by decide)
      refine vm_X12_chosen _ _ _ (cG (sp_mPerson hI.1.1 hw hn) (fun h => ⟨fun z => absurd z.1 h, fun _ => rfl, Fr.rf, neg1 hI hs⟩) (fun g1 => cI (sp_choosing hI hw) ?_))
      rintro u s2 ⟨rfl, rfl⟩
      rw [w32_id (x := C 70 4 - 1) (by omega) (by omega)]
      refine cG sp_mlies (fun h => ⟨fun z => absurd (show 0 ≤ i ∧ i ≤ C 70 4 - 1 by omega) h, fun _ => rfl, Fr.rf, neg1 hI hs⟩) (fun g2 => cI (sp_chooses (d := 987) hI hP hT hc (by omega) hw (hs.cell 121 (by decide))) ?_)
      have gg : (0 ≤ o ∧ o < C 1 11) ∧ 0 ≤ i ∧ i < C 70 4 := ⟨g1, by omega⟩
      rintro u s3 ⟨x1, x2, x3⟩
      rcases x3 with ⟨y1, y2⟩ | ⟨y1, y2, y3⟩
      · exact ⟨fun _ => ⟨fun _ => (hv1 y2).symm, fun z => absurd gg z, x1, x2⟩, fun z => absurd y1 z⟩
      · refine ⟨fun z => absurd z (by omega), fun _ => ?_⟩
        have hb := y2.1
        have key := sp_digit (Ln := Ln) (d := 998) (s := s3) (r := s3 82 75) (k := i.toNat) (by omega) (by omega)
        rw [show ((i.toNat : Nat) : Int) = i by omega] at key
        refine cI key ?_
        rintro v4 s4 ⟨rfl, rfl⟩
        exact ⟨fun _ => (hv2 _ y2).symm, fun z => absurd gg z, x1, x2⟩
  by_cases hx : ∃ b, bstM (okR C P) (wrR C G o P NT) c (p5 c) b
  · obtain ⟨b, hb⟩ := hx
    exact fin (dv b i.toNat % 5) (fun h => absurd hb.2.1 (h b hb.1.1 hb.1.2)) (fun b' hb' => by rw [bstM_un hc4 hb hb'])
  · exact fin (-1) (fun _ => rfl) (fun b hb => absurd ⟨b, hb⟩ hx)
end BE
