/-! rules, the pair -/
section PV
variable {Ln : Int} {σ s : AS} {nn : Nat} {G G' : Int → GF}
theorem CL_low {C C' : AS} {r c : Int} (h : CL C G r c) (hg : G' c = G c) (h1 : C' 30 c = C 30 c ∧ C' 31 c = C 31 c ∧ C' 32 c = C 32 c ∧ C' 33 c = C 33 c ∧ C' 34 c = C 34 c) (h2 : C' 101 c = C 101 c ∧ C' 102 c = C 102 c ∧ C' 103 c = C 103 c ∧ C' 104 c = C 104 c ∧ C' 105 c = C 105 c) (h3 : ∀ j : Int, j < 160 * r + 160 → C' 35 j = C 35 j) (h4 : ∀ j : Int, j < 160 * r + 160 → C' 106 j = C 106 j ∧ C' 107 j = C 107 j) : CL C' G' r c := by
  obtain ⟨a1, a2, a3, a4, a5⟩ := h1
  obtain ⟨b1, b2, b3, b4, b5⟩ := h2
  unfold CL at h ⊢
  rw [a1, a2, a3, a4, a5, b1, b2, b3, b4, b5, hg]
  refine ⟨h.1, h.2.1, fun z => ?_⟩
  obtain ⟨c1, c2, ⟨c3, c4⟩, c5, m, c6, c7, c8⟩ := h.2.2 z
  refine ⟨c1, c2, ⟨SX_congr c3 (fun j j0 j1 => h3 j (by omega)), c4⟩, c5, m, ?_, c7, c8⟩
  unfold cds at c6 ⊢
  refine Eq.trans ?_ c6
  refine rl_congr (fun j j0 j1 => ?_)
  rw [(h4 _ (by omega)).1, (h4 _ (by omega)).2]
theorem RB_old (h : RB σ G) {r : Int} (hr : σ 24 14 = r) (hg : ∀ c : Int, c < 12 * r → G' c = G c) (h35 : ∀ j : Int, j < 160 * r → s 35 j = σ 35 j) (h30 : ∀ x : Int, x < 12 * r → s 30 x = σ 30 x ∧ s 31 x = σ 31 x ∧ s 32 x = σ 32 x ∧ s 33 x = σ 33 x ∧ s 34 x = σ 34 x) (h25 : ∀ x : Int, x < r → s 25 x = σ 25 x ∧ s 26 x = σ 26 x ∧ s 27 x = σ 27 x ∧ s 28 x = σ 28 x ∧ s 29 x = σ 29 x) (h106 : ∀ j : Int, j < 160 * r → s 106 j = σ 106 j ∧ s 107 j = σ 107 j) (h101 : ∀ x : Int, x < 12 * r → s 101 x = σ 101 x ∧ s 102 x = σ 102 x ∧ s 103 x = σ 103 x ∧ s 104 x = σ 104 x ∧ s 105 x = σ 105 x) (h96 : ∀ x : Int, x < r → s 96 x = σ 96 x ∧ s 97 x = σ 97 x ∧ s 98 x = σ 98 x ∧ s 99 x = σ 99 x ∧ s 100 x = σ 100 x) : ∀ r' : Int, 0 ≤ r' → r' < r → ((s 96 r' = s 25 r' ∧ s 97 r' = s 26 r' ∧ s 98 r' = s 27 r' ∧ s 99 r' = s 28 r' ∧ s 100 r' = s 29 r') ∧ (0 ≤ s 29 r' ∧ s 29 r' ≤ 12)) ∧ ∀ c : Int, 12 * r' ≤ c → c < 12 * r' + s 29 r' → CL s G' r' c := by
  intro r' r0 r1
  obtain ⟨⟨⟨d1, d2, d3, d4, d5⟩, d6⟩, d7⟩ := h.2 r' r0 (by omega)
  obtain ⟨p1, p2, p3, p4, p5⟩ := h25 r' r1
  obtain ⟨q1, q2, q3, q4, q5⟩ := h96 r' r1
  rw [p1, p2, p3, p4, p5, q1, q2, q3, q4, q5]
  refine ⟨⟨⟨d1, d2, d3, d4, d5⟩, d6⟩, fun c c0 c1 => ?_⟩
  exact CL_low (d7 c c0 c1) (hg c (by omega)) (h30 c (by omega)) (h101 c (by omega)) (fun j hj => h35 j (by omega)) (fun j hj => h106 j (by omega))
theorem INV_rules (hI : INV σ nn G) (fr : Fr (crX ++ mmX) (crF ++ mmF) σ s) (h2 : s 2 1 = 0) (h82 : s 82 1 = 0) (h7 : s 82 7 = s 24 14) (hR : RB s G') : INV s nn G' := by
  obtain ⟨k1, k2, k3, k4, k5, k6, k7, k8⟩ := id hI
  have hBK : BK s := BK_up [] [((82, 1), (2, 1)), ((82, 7), (24, 14))] k1.1 fr (by decide) (by decide) no_mem (fun q hq => by
    rcases List.mem_cons.mp hq with rfl | hq
    · show s 82 1 = s 2 1
      rw [h2, h82]
    · rw [List.mem_singleton.mp hq]
      exact h7)
  exact ⟨OKB_up k1 hBK (by rw [fr.fld 1 11 (by decide)]; exact k1.2.1) (Nat.le_refl nn) k1.2.2.1 (by rw [fr.fld 19 4 (by decide)]; exact k1.2.2.2.1) (fr.fld 7 11 (by decide)) (fr.cs _ (by decide)) (by rw [fr.cell 5 (by decide)]; exact OKB_5 k1), OKD_cg (fr.cell 13 (by decide)) (fr.fld 7 11 (by decide)) k2, hR, NU_cg (fr.cell 5 (by decide)) (fr.cell 121 (by decide)) (fr.fls _ (by decide)) k4, ⟨by omega, fun i ha hb => absurd hb (by omega)⟩, CH_cg (fr.cell 71 (by decide)) (fr.cell 129 (by decide)) (fr.fld 4 2 (by decide)) (fr.fld 70 4 (by decide)) k6, BA_cg (fr.cs BAC (by decide)) (fr.fld 70 6 (by decide)) k7, DE_cg (fr.cs DEC (by decide)) (fr.fld 76 3 (by decide)) k8.1, TH_cg (fr.fld 7 11 (by decide)) (Int.le_of_eq (fr.fld 1 12 (by decide)).symm) (fr.cell 8 (by decide)) (fr.cell 10 (by decide)) (fr.cell 14 (by decide)) (fr.cell 15 (by decide)) k8.2⟩
def newG (r : Int) (L : List Cx) (G : Int → GF) : Int → GF := fun x => if x < 12 * r then G x else match L[(x - 12 * r).toNat]? with
  | some y => y.2.2.2
  | none => fun _ => none
theorem newG_at {r : Int} {L : List Cx} {i : Nat} {x : Cx} (h : L[i]? = some x) : newG r L G (12 * r + i) = x.2.2.2 := by
  unfold newG
  rw [if_neg (by omega), show (12 * r + (i : Int) - 12 * r).toNat = i by omega, h]
theorem CL_new {r c : Int} {x : Cx} (h1 : CX2 r s c x) (h2 : MX2 r s c x) (hx : Cok x) (hg : G' c = x.2.2.2) : CL s G' r c := by
  obtain ⟨a1, a2, a3, a4⟩ := h1
  obtain ⟨b1, b2, b3, b4⟩ := h2
  obtain ⟨c1, c2, c3⟩ := hx
  unfold CL
  rw [a1, a2, b1, b2, hg]
  refine ⟨⟨rfl, rfl⟩, fun z => ?_, fun z => ?_⟩
  · obtain ⟨d1, d2⟩ := c2 z
    rw [a3 z, b3 z]
    exact ⟨rfl, d1, d2⟩
  · obtain ⟨d1, d2⟩ := c3 z
    obtain ⟨e1, e2⟩ := a4 z
    obtain ⟨e3, e4, m, e5, e6, e7⟩ := b4 z
    exact ⟨d1, d2, ⟨e1, e2⟩, ⟨e3, e4⟩, m, e5, e6, e7⟩
theorem pr_rules (hI : INV σ nn G) (l f t n : Int) : PR Ln 101 [vR 1, vI l, vI f, vI t, vI n] 175 [vR 82, vI l, vI f, vI t, vI n] σ := by
  obtain ⟨k1, k2, k3, k4, k5, k6, k7, k8⟩ := id hI
  have hB := k1.1
  have e71 : σ 82 7 = σ 24 14 := hB.2.2.2.2.2.2.2.2.1
  have e1 : σ 82 1 = σ 2 1 := hB.2.2.1
  have hrb := k3.1
  by_cases hc : (0 ≤ l ∧ l < 4) ∧ (0 ≤ f ∧ f ≤ 3999) ∧ (0 ≤ t ∧ t ≤ 3999) ∧ f ≤ t ∧ (1 ≤ n ∧ n ≤ 160) ∧ n ≤ σ 2 1 ∧ σ 24 14 < 20
  · obtain ⟨hl, hf, ht, hft, hn, hn2, hr20⟩ := hc
    obtain ⟨r, hr⟩ : ∃ r, σ 24 14 = r := ⟨_, rfl⟩
    obtain ⟨ch, hch⟩ : ∃ ch : Int → Int, ch = fun q => if 0 ≤ q ∧ q < n then σ 3 q else 0 := ⟨_, rfl⟩
    have chq : ∀ q : Int, 0 ≤ q → q < n → σ 3 q = ch q := fun q q0 q1 => by rw [hch]; exact (if_pos ⟨q0, q1⟩).symm
    have hG : CG ch n (160 * r) := by
      refine ⟨fun q hq => by rw [hch]; exact if_neg (by omega), fun q => ?_, by omega, by omega, by omega⟩
      rw [hch]
      dsimp only
      by_cases z : 0 ≤ q ∧ q < n
      · rw [if_pos z]
        exact (k5.2 q z.1 (by omega)).1
      · rw [if_neg z]; decide
    have hpr := gd_rules hG.1 13 0 0 (Int.le_refl 0) (by omega) (by omega)
    refine am_MI (sp_cRules (d := 972) (l := l) (f := f) (t := t) hG ⟨hn2, chq⟩ hr ⟨by omega, by omega⟩ hl hf ht hft hn.1) ?_
    intro v s1 h1
    have frC : Fr crX crF σ s1 := by
      cases hp : pRules ch n 13 0 0 with
      | inl e => rw [hp] at h1; exact h1.2.1.1
      | inr L => rw [hp] at h1; exact h1.2.1.1
    have m7 : s1 82 7 = r := by rw [frC.fld 82 7 (by decide), e71]; exact hr
    have hM := sp_mRules (Ln := Ln) (d := 988) (σ := s1) (l := l) (f := f) (t := t) (n := n) (r := r) (ch := ch) hG ⟨by rw [frC.fld 82 1 (by decide), e1]; exact hn2, fun q q0 q1 => by rw [frC.cell 83 (by decide), (k5.2 q q0 (by omega)).2]; exact chq q q0 q1⟩ m7 ⟨by omega, by omega⟩ hl hf ht hft hn.1
    refine ⟨frC.cell 0 (by decide) ▸ rfl, am_MI hM ?_⟩
    intro v2 s2 h2
    cases hp : pRules ch n 13 0 0 with
    | inl e =>
      rw [hp] at h1 h2
      obtain ⟨rfl, ⟨c1, c2, c3, c4, c5⟩, c6⟩ := h1
      obtain ⟨rfl, ⟨d1, d2, d3, d4, d5⟩, d6⟩ := h2
      have fr : Fr (crX ++ mmX) (crF ++ mmF) σ s2 := (c1.mo (by decide) (by decide)).tr (d1.mo (by decide) (by decide))
      have e24 : s2 24 14 = r := by rw [d1.fld 24 14 (by decide)]; exact c6
      have hold := RB_old (G' := G) (s := s2) k3 hr (fun c _ => rfl) (fun j hj => by rw [d1.cell 35 (by decide)]; exact c3 j hj) (fun x hx => by rw [d1.cell 30 (by decide), d1.cell 31 (by decide), d1.cell 32 (by decide), d1.cell 33 (by decide), d1.cell 34 (by decide)]; exact c4 x hx) (fun x hx => by rw [d1.cell 25 (by decide), d1.cell 26 (by decide), d1.cell 27 (by decide), d1.cell 28 (by decide), d1.cell 29 (by decide)]; exact c5 x hx) (fun j hj => by rw [(d3 j hj).1, (d3 j hj).2, c1.cell 106 (by decide), c1.cell 107 (by decide)]; exact ⟨rfl, rfl⟩) (fun x hx => by
        obtain ⟨p1, p2, p3, p4, p5⟩ := d4 x hx
        rw [p1, p2, p3, p4, p5, c1.cell 101 (by decide), c1.cell 102 (by decide), c1.cell 103 (by decide), c1.cell 104 (by decide), c1.cell 105 (by decide)]
        exact ⟨rfl, rfl, rfl, rfl, rfl⟩) (fun x hx => by
        obtain ⟨p1, p2, p3, p4, p5⟩ := d5 x hx
        rw [p1, p2, p3, p4, p5, c1.cell 96 (by decide), c1.cell 97 (by decide), c1.cell 98 (by decide), c1.cell 99 (by decide), c1.cell 100 (by decide)]
        exact ⟨rfl, rfl, rfl, rfl, rfl⟩)
      refine ⟨rfl, fr.cell 0 (by decide) ▸ rfl, nn, G, INV_rules hI fr (by rw [d1.fld 2 1 (by decide)]; exact c2) d2 (by rw [d6, e24]) ⟨by rw [e24]; omega, fun r' r0 r1 => hold r' r0 (by omega)⟩⟩
    | inr L =>
      rw [hp] at h1 h2 hpr
      obtain ⟨rfl, ⟨c1, c2, c3, c4, c5⟩, c6, ⟨c7, c8, c9, c10⟩, c11, c12⟩ := h1
      obtain ⟨rfl, ⟨d1, d2, d3, d4, d5⟩, d6, ⟨d7, d8, d9, d10⟩, d11, d12⟩ := h2
      have fr : Fr (crX ++ mmX) (crF ++ mmF) σ s2 := (c1.mo (by decide) (by decide)).tr (d1.mo (by decide) (by decide))
      have e24 : s2 24 14 = v2 + 1 := by rw [d1.fld 24 14 (by decide)]; exact c6
      have hold := RB_old (G' := newG v2 L G) (s := s2) k3 hr (fun c hc => if_pos hc) (fun j hj => by rw [d1.cell 35 (by decide)]; exact c3 j hj) (fun x hx => by rw [d1.cell 30 (by decide), d1.cell 31 (by decide), d1.cell 32 (by decide), d1.cell 33 (by decide), d1.cell 34 (by decide)]; exact c4 x hx) (fun x hx => by rw [d1.cell 25 (by decide), d1.cell 26 (by decide), d1.cell 27 (by decide), d1.cell 28 (by decide), d1.cell 29 (by decide)]; exact c5 x hx) (fun j hj => by rw [(d3 j hj).1, (d3 j hj).2, c1.cell 106 (by decide), c1.cell 107 (by decide)]; exact ⟨rfl, rfl⟩) (fun x hx => by
        obtain ⟨p1, p2, p3, p4, p5⟩ := d4 x hx
        rw [p1, p2, p3, p4, p5, c1.cell 101 (by decide), c1.cell 102 (by decide), c1.cell 103 (by decide), c1.cell 104 (by decide), c1.cell 105 (by decide)]
        exact ⟨rfl, rfl, rfl, rfl, rfl⟩) (fun x hx => by
        obtain ⟨p1, p2, p3, p4, p5⟩ := d5 x hx
        rw [p1, p2, p3, p4, p5, c1.cell 96 (by decide), c1.cell 97 (by decide), c1.cell 98 (by decide), c1.cell 99 (by decide), c1.cell 100 (by decide)]
        exact ⟨rfl, rfl, rfl, rfl, rfl⟩)
      refine ⟨rfl, fr.cell 0 (by decide) ▸ rfl, nn, newG v2 L G, INV_rules hI fr (by rw [d1.fld 2 1 (by decide)]; exact c2) d2 (by rw [d6, e24]) ⟨by rw [e24]; omega, fun r' r0 r1 => ?_⟩⟩
      by_cases z : r' < v2
      · exact hold r' r0 z
      · obtain rfl : r' = v2 := by omega
        have hlen := hpr.2 (by decide) (by decide)
        have e29 : s2 29 r' = L.length := by rw [d1.cell 29 (by decide)]; exact c11
        refine ⟨⟨⟨?_, ?_, ?_, ?_, ?_⟩, by rw [e29]; omega⟩, fun c cA cB => ?_⟩
        · rw [d7, d1.cell 25 (by decide), c7]
        · rw [d8, d1.cell 26 (by decide), c8]
        · rw [d9, d1.cell 27 (by decide), c9]
        · rw [d10, d1.cell 28 (by decide), c10, frC.fld 82 2 (by decide)]
          exact hB.2.2.2.1
        · rw [d11, e29]
        · rw [e29] at cB
          obtain ⟨i, hi⟩ : ∃ i : Nat, c = 12 * r' + i := ⟨(c - 12 * r').toNat, by omega⟩
          subst hi
          have hiL : i < L.length := by omega
          have hx : L[i]? = some L[i] := List.getElem?_eq_getElem hiL
          obtain ⟨p1, p2, p3, p4⟩ := c12 i _ hx
          refine CL_new ⟨by rw [d1.cell 30 (by decide)]; exact p1, by rw [d1.cell 31 (by decide)]; exact p2, fun y => by rw [d1.cell 32 (by decide)]; exact p3 y, fun y => by rw [d1.cell 35 (by decide), d1.cell 33 (by decide), d1.cell 34 (by decide)]; exact p4 y⟩ (d12 i _ hx) (hpr.1 _ (List.getElem_mem hiL)) (newG_at hx)
  · -- refused
    refine am_MI (P := fun v s => v = -1 ∧ s = σ) (vm_X11_rules _ _ _ _ _ ⟨fun _ => ⟨rfl, rfl⟩, fun a1 => ⟨fun _ => ⟨rfl, rfl⟩, fun a2 => cG sp_cDay (fun _ => ⟨rfl, rfl⟩) (fun a3 => cG sp_cDay (fun _ => ⟨rfl, rfl⟩) (fun a4 => ⟨fun a5 => ⟨fun _ => ⟨rfl, rfl⟩, fun a6 => ⟨fun _ => ⟨rfl, rfl⟩, fun a7 => ⟨fun _ => ⟨rfl, rfl⟩, fun a8 => ⟨fun a9 => absurd ⟨by omega, a3, a4, a5, by omega, by omega, a9⟩ hc, fun _ => ⟨rfl, rfl⟩⟩⟩⟩⟩, fun _ => ⟨rfl, rfl⟩⟩))⟩⟩) ?_
    rintro v s1 ⟨rfl, rfl⟩
    refine ⟨rfl, am_MI (P := fun v s => v = -1 ∧ s = s1) (vm_X12_rules _ _ _ _ _ ⟨fun _ => ⟨rfl, rfl⟩, fun b1 => cI sp_mlies ?_⟩) ?_⟩
    · rintro r2 s2 ⟨h2, rfl⟩
      refine ⟨fun _ => ⟨rfl, rfl⟩, fun b2 => cG sp_mDay (fun _ => ⟨rfl, rfl⟩) (fun b3 => cG sp_mDay (fun _ => ⟨rfl, rfl⟩) (fun b4 => ⟨fun _ => ⟨rfl, rfl⟩, fun b5 => cI sp_mlies ?_⟩))⟩
      rintro r8 s7 ⟨h8, rfl⟩
      refine ⟨fun _ => ⟨rfl, rfl⟩, fun b6 => ⟨fun b7 => absurd ⟨?_, b3, b4, by omega, ?_, by omega, by omega⟩ hc, fun _ => ⟨rfl, rfl⟩⟩⟩
      · by_cases z : 0 ≤ l ∧ l ≤ 3
        · omega
        · rw [if_neg z] at h2; exact absurd h2 b2
      · by_cases z : 1 ≤ n ∧ n ≤ 160
        · exact z
        · rw [if_neg z] at h8; exact absurd h8 b6
    · rintro v s2 ⟨rfl, rfl⟩
      exact ⟨rfl, rfl, nn, G, hI⟩
end PV
