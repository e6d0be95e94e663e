/-! the class searches -/
theorem LW_cg {C : AS} {fo fo' : Int → Int} {P : Int} (h : ∀ p : Int, 0 ≤ p → p < P → fo p = fo' p) : LW C fo P ↔ LW C fo' P := by
  have key : ∀ f g : Int → Int, (∀ p : Int, 0 ≤ p → p < P → f p = g p) → LW C f P → LW C g P := by
    intro f g hfg hL p a b e
    obtain ⟨u1, u2⟩ := hL p a b e
    refine ⟨by rw [← hfg p a b]; exact u1, fun q x y z => ?_⟩
    have := u2 q x y z
    rw [hfg p a b, hfg q x (by omega)] at this
    exact this
  exact ⟨key fo fo' h, key fo' fo (fun p a b => (h p a b).symm)⟩
def srX : List Nat := [66, 74, 75] ++ plX
def srF : List (Nat × Int) := (70, 10) :: plF
def bestX (ok : Int → Prop) (W : Int → Int) (c : Nat) (N : Int) (s : AS) : Prop := (s 70 10 = -1 ∧ ∀ n : Int, 0 ≤ n → n < N → ¬ ok (rv c n)) ∨ ∃ n0 : Int, (0 ≤ n0 ∧ n0 < N) ∧ ok (rv c n0) ∧ s 70 10 = W (rv c n0) ∧ (∀ j : Nat, j < c → s 75 j = dv (rv c n0) j % 5) ∧ ∀ n : Int, 0 ≤ n → n < N → ok (rv c n) → W (rv c n) < W (rv c n0) ∨ (W (rv c n) = W (rv c n0) ∧ n0 ≤ n)
section SE
variable {Ln : Int} {d : Nat} {C s1 : AS} {n P NT c : Nat} {G : Int → GF} {o : Int}
theorem wrR_nn (hI : INV C n G) (ho : 0 ≤ o ∧ o < 10) (hP : P ≤ 10) (hT : NT ≤ 10) (r : Int) : 0 ≤ wrR C G o P NT r := by
  obtain ⟨k, hk, hm, hmn⟩ := mAll_ok (F := findF C G) (dd := C 1 10) (t := C 1 10) (fo := foR (C 71) r) hI.1
  have h1 := clm_bd (H := C 5) (o := o) hm P hP
  have h2 := clm_bd2 (o := o) ho hm NT hT
  unfold wrR clm
  omega
def srOK (C s1 s : AS) : Prop := Fr srX srF s1 s ∧ 0 ≤ s 41 9 ∧ ∀ p : Int, 0 ≤ p → p < 10 → C 71 p = 0 → s 66 p = -1
theorem sp_worth (hI : INV C n G) (hp : PST C (findF C G) (C 1 10) P c s1) (hP : C 4 2 = P) (hT : C 1 12 = NT) (hc : C 70 4 = c) (ho : 0 ≤ o ∧ o < 10) {s : AS} {r : Int} (hs : srOK C s1 s) (hrow : ∀ j : Nat, j < c → s 74 j = dv r j % 5) :
    am_M Ln (d + 7) 11 [vR 70, vI o] s (am_rI fun v s' => v = wrR C G o P NT r ∧ srOK C s1 s' ∧ Fr (66 :: plX) plF s s') := by
  obtain ⟨p1, p2, p3, p4, p5', p6, p7, p8, ⟨a, p9, p10⟩, p11⟩ := hp
  obtain ⟨g1, g2, g3⟩ := hs
  have hch := hI.2.2.2.2.2.1
  have hP10 := hI.2.2.2.1.2.1
  have hT10 := hI.2.2.2.1.2.2.1
  have hL := hI.1.2.2.2.2.1
  have hc4 : c ≤ 4 := by have := hch.2.2.2; omega
  have e704 : s 70 4 = c := by rw [g1.fld 70 4 (by decide), p1.fld 70 4 (by decide)]; exact hc
  have e73 : s 73 = s1 73 := g1.cell 73 (by decide)
  -- what is forced
  have fin : ∀ f : Int → Int, (∀ p : Int, 0 ≤ p → p < 10 → f p = foR (C 71) r p) → ∃ T : Option AV → AS → Prop, am_M Ln (d + 6) 35 [vR 40] (zc s 66 f) T ∧ ∀ s2, T none s2 → ∃ T : Option AV → AS → Prop, am_M Ln (d + 6) 36 [vR 40, vI (s2 70 9), vI (s2 40 7)] s2 T ∧ ∀ s3, T none s3 → ∃ T : Option AV → AS → Prop, am_M Ln (d + 6) 46 [vR 40, vI o] s3 T ∧ ∀ (v : Int) s4, T (some (vI v)) s4 → (v = wrR C G o P NT r ∧ srOK C s1 s4 ∧ Fr (66 :: plX) plF s s4) := by
    intro f hf
    have fz : Fr (66 :: plX) plF s (zc s 66 f) := Fr.cl Fr.rf (by decide)
    have k9 : KP a (zc s 66 f) := by
      unfold KP at p9 ⊢
      rw [zc_ne (by decide), zc_ne (by decide), zc_ne (by decide), zc_ne (by decide), zc_ne (by decide), zc_ne (by decide), zc_ne (by decide), g1.fld 53 3 (by decide), g1.cell 54 (by decide), g1.cell 55 (by decide), g1.cell 56 (by decide), g1.cell 57 (by decide), g1.cell 58 (by decide), g1.cell 59 (by decide)]
      exact p9
    refine cV (sp_goBack (d := d + 4) p10 k9) ?_
    rintro s2 ⟨x1, x2⟩
    have f2 : Fr (66 :: plX) plF s s2 := fz.tr (x2.mo (by decide) (by decide))
    have u709 : s2 70 9 = s1 70 9 := by rw [f2.fld 70 9 (by decide), g1.fld 70 9 (by decide)]
    have u407 : s2 40 7 = s1 40 7 := by rw [f2.fld 40 7 (by decide), g1.fld 40 7 (by decide)]
    have u409 : s2 40 9 = C 1 10 := by rw [f2.fld 40 9 (by decide), g1.fld 40 9 (by decide), p2]
    have u65 : s2 65 = s1 65 := (f2.cell 65 (by decide)).trans (g1.cell 65 (by decide))
    have u66 : s2 66 = f := by rw [x2.cell 66 (by decide), zc_eq]
    have u419 : s2 41 9 = s 41 9 := by rw [x2.fld 41 9 (by decide), zc_ne (by decide)]
    have fC : Fr wkX wkF C s2 := ((p1.mo (by decide) (by decide)).tr (g1.mo (by decide) (by decide))).tr (f2.mo (by decide) (by decide))
    have hpre : MI (s1 70 9) (mpl C (findF C G) (C 1 10) fo0 (rl (s1 70 9) (s1 65)) m0) := by
      have hh := (mpl_okB (F := findF C G) (t := C 1 10) (fo := fo0) (is := rl (s1 70 9) (s1 65)) hI.1 (fun x hx => by
        obtain ⟨y, y0, y1, y2⟩ := rl_mem.mp hx
        rw [← y2]
        exact (lst_at' hI p5' y0 (by omega)).1) (by rw [rl_len]; omega)).1
      rw [rl_len, show (((s1 70 9).toNat : Nat) : Int) = s1 70 9 by omega] at hh
      exact hh
    rw [u709, u407]
    refine cV (sp_play (d := d) (fo := foR (C 71) r) (n := s1 40 7) (t := C 1 10) (ruX_find hI.2.2.1) hI.1.2.2.2.1 x1 hpre fC u409 (by rw [u419]; exact g2) (fun p a0 b0 => ⟨by rw [u66]; exact hf p a0 b0, foR_rg⟩) (by rw [u407]; omega) (by omega) (fun x a0 b0 => by rw [u65]; exact (lst_at' hI p5' a0 b0).2) p6.1) ?_
    rintro s3 ⟨z1, z2, z3, -⟩
    -- all lines, played with what is forced
    have hpf : mpl C (findF C G) (C 1 10) fo0 (rl (s1 70 9) (s1 65)) m0 = mpl C (findF C G) (C 1 10) (foR (C 71) r) (rl (s1 70 9) (s1 65)) m0 := by
      refine mpl_fo _ _ (fun i hi ht => ?_)
      obtain ⟨y, y0, y1, y2⟩ := rl_mem.mp hi
      rw [← y2] at ht ⊢
      rw [foR, if_pos (p7 y y0 y1 ht)]
      rfl
    have hrl : rl (s1 40 7 - s1 70 9) (fun x => s2 65 (s1 70 9 + x)) = rl (s1 40 7 - s1 70 9) (fun x => s1 65 (s1 70 9 + x)) := by rw [u65]
    rw [hrl, hpf, ← mpl_app, ← rl_split _ p6.1 p6.2, p5'] at z1
    obtain ⟨k, hk, hm, hmn⟩ := mAll_ok (F := findF C G) (dd := C 1 10) (t := C 1 10) (fo := foR (C 71) r) hI.1
    have hz := mpl_NT (F := findF C G) (t := C 1 10) (fo := foR (C 71) r) (N := NT) (lst C (C 1 10) (C 1 10) (C 7 11)) m0 (fun i hi h3 => by
      have hr := lst_rng hI.1 _ hi
      have hlv := (hI.1.2.2.2.2.2.2 i hr.1 hr.2).1
      have := (hI.2.2.2.2.2.2.2.2 i hr.1 hr.2).1 h3
      exact ⟨(hlv.2.2.2.2.1 (by omega)).1, by omega⟩) m0_NT
    have f3 : Fr (66 :: plX) plF s s3 := f2.tr (z2.mo (by decide) (by decide))
    have fC3 : Fr wkX wkF C s3 := fC.tr (z2.mo (by decide) (by decide))
    refine cI (sp_claimOf (C := C) (d := d + 2) (P := P) (NT := NT) ho hm z1 z3 (fC3.cell 5 (by decide)) (by rw [fC3.fld 4 2 (by decide)]; exact hP) (by omega) (by omega) hz) ?_
    rintro v s4 ⟨w1, w2⟩
    have f4 : Fr (66 :: plX) plF s s4 := f3.tr (w2.mo (by decide) (by decide))
    refine ⟨w1, ⟨g1.tr (f4.mo (by decide) (by decide)), by rw [w2.fld 41 9 (by decide)]; exact z3, fun p a0 b0 e0 => ?_⟩, f4⟩
    rw [w2.cell 66 (by decide), z2.cell 66 (by decide), u66, hf p a0 b0, foR, if_pos e0]
  have loop : ∀ (m j : Nat) (f : Int → Int), j + m = c → (∀ p : Int, 0 ≤ p → p < 10 → (C 71 p = 0 ∨ cn0 (C 71) p.toNat < j) → f p = foR (C 71) r p) → am_E Ln (d + 6) 11 2 [vR 70, vI o, vI (j : Int)] [] (zc s 66 f) (am_rI fun v s' => v = wrR C G o P NT r ∧ srOK C s1 s' ∧ Fr (66 :: plX) plF s s') := by
    intro m
    induction m with
    | zero =>
      intro j f hj hf
      obtain rfl : j = c := by omega
      refine vl_X0_worth_2 _ _ _ ⟨fun _ => fin f (fun p a0 b0 => hf p a0 b0 ?_), fun h => absurd ?_ h⟩
      · by_cases e : C 71 p = 0
        · exact Or.inl e
        · by_cases e2 : p < P
          · exact Or.inr (p8.2 p a0 e2 e).2
          · exact Or.inl ((hch.2.1 p a0 b0).2 (by omega))
      · rw [zc_ne (by decide), e704]; omega
    | succ m ih =>
      intro j f hj hf
      obtain ⟨o1, o2, o3⟩ := p8.1 j (by omega) (by omega)
      refine vl_X0_worth_2 _ _ _ ⟨fun h => absurd h ?_, fun _ => ⟨by omega, by omega, ?_⟩⟩
      · rw [zc_ne (by decide), e704]; omega
      · rw [zc_ne (by decide), zc_ne (by decide), e73, w32_id (x := (j : Int) + 1) (by omega) (by omega), up_zc, zc_eq, zc_zc]
        refine ⟨by omega, ih (j + 1) _ (by omega) (fun p a0 b0 e0 => ?_)⟩
        rw [fu_app]
        by_cases e : p = s1 73 j
        · rw [if_pos e, hrow j (by omega), e, foR, if_neg o2, o3, show ((j : Int)).toNat = j by omega]
        · rw [if_neg e]
          refine hf p a0 b0 ?_
          rcases e0 with z | z
          · exact Or.inl z
          · by_cases z2 : cn0 (C 71) p.toNat = j
            · by_cases z3 : C 71 p = 0
              · exact Or.inl z3
              · by_cases z4 : p < P
                · exact absurd (by rw [← (p8.2 p a0 z4 z3).1, z2]) e
                · exact Or.inl ((hch.2.1 p a0 b0).2 (by omega))
            · exact Or.inr (by omega)
  have k0 := loop c 0 (s 66) (by omega) (fun p a0 b0 e0 => by
    have := cn0_bd (w := C 71) p.toNat
    rcases e0 with z | z
    · rw [g3 p a0 b0 z, foR, if_pos z]
    · omega)
  rw [zc_self] at k0
  exact vm_X0_worth _ _ k0
theorem sp_lawR (hI : INV C n G) (hp : PST C (findF C G) (C 1 10) P c s1) (hP : C 4 2 = P) (hc : C 70 4 = c) {s : AS} {r : Int} (hs : srOK C s1 s) (hrow : ∀ j : Nat, j < c → s 74 j = dv r j % 5) :
    am_M Ln (d + 2) 10 [vR 70] s (am_rI fun v s' => s' = s ∧ (v ≠ 0 ↔ okR C P r)) := by
  have hch := hI.2.2.2.2.2.1
  have hP10 := hI.2.2.2.1.2.1
  have hc4 : c ≤ 4 := by have := hch.2.2.2; omega
  have fC : Fr wkX wkF C s := (hp.1.mo (by decide) (by decide)).tr (hs.1.mo (by decide) (by decide))
  have hop := hp.2.2.2.2.2.2.2.1
  have e73 : s 73 = s1 73 := hs.1.cell 73 (by decide)
  have q706 : s 70 6 = C 70 6 := fC.fld 70 6 (by decide)
  refine am_MI (sp_lawful (C := C) (P := P) (c := c) hI (BA_cg (fC.cs BAC (by decide)) q706 hI.2.2.2.2.2.2.1) (fun x y => ?_) (fC.cell 71 (by decide)) (by rw [fC.fld 70 4 (by decide)]; exact hc) hc4 (by rw [e73]; exact hop) (by omega) (fun j a b => ?_)) ?_
  · unfold brd
    rw [q706, fC.cell 130 (by decide), fC.cell 131 (by decide), fC.cell 132 (by decide), fC.cell 133 (by decide)]
  · have := hrow j.toNat (by omega)
    rw [show ((j.toNat : Nat) : Int) = j by omega] at this
    omega
  · rintro v s' ⟨y1, y2⟩
    refine ⟨y1, y2.trans (LW_cg (fun p a b => ?_))⟩
    unfold foW foR
    by_cases e : C 71 p = 0
    · rw [if_pos e, if_pos e]
    · rw [if_neg e, if_neg e]
      have h2 := (hop.2 p a b e).2
      have cb := cn0_bd (w := C 71) p.toNat
      have := hrow (cn0 (C 71) p.toNat).toNat (by omega)
      rw [show (((cn0 (C 71) p.toNat).toNat : Nat) : Int) = cn0 (C 71) p.toNat by omega] at this
      exact this
end SE
