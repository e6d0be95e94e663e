/-! one line played by the class -/
def xact (C : AS) (F : FD) (t : Int) (fo : Int → Int) (i : Int) (m : MS) (σ σ' : AS) : Prop := RX (mact C F t fo i m) σ' ∧ σ' 40 13 = (if mfail C i m = true then 1 else 0) ∧ Fr [42, 43, 44, 45, 46, 47, 48, 49, 50, 51, 52, 67, 68] [(41, 3), (41, 9), (40, 13)] σ σ' ∧ 0 ≤ σ' 41 9 ∧ (mfail C i m = false → ∀ o : Int, 0 ≤ o → o < 10 → σ' 50 o = mgot C F t fo i m o)
set_option maxHeartbeats 4000000 in
theorem sp_act {Ln : Int} {d : Nat} {C σ : AS} {F : FD} {m : MS} {k i t : Int} {fo : Int → Int} (hr : RX m σ) (hm : MI k m) (hk : k < 100) (hf : Fr wkX wkF C σ) (hl : lv C i) (hkn : C 19 4 ≤ 100) (ht : σ 40 9 = t)
    (hw : tkD (C 8 i) = true → σ 40 10 = wayF C F t fo i (m.1 (C 9 i)) ∧ 0 ≤ σ 40 10 ∧ σ 40 10 ≤ 4) (hri : C 8 i = 4 → σ 40 11 = risF C F t i (m.1 (C 9 i))) (he : C 8 i = 1 → σ 40 12 = endF C F t i (m.1 (C 9 i))) :
    am_M Ln (d + 5) 39 [vR 40, vI i] σ (am_rV (xact C F t fo i m σ)) := by
  have hl0 := hl
  obtain ⟨l1, l2, l3, l4, l5, l6, l7⟩ := hl
  have e8 := hf.cell 8 (by decide)
  have e9 := hf.cell 9 (by decide)
  have e10 := hf.cell 10 (by decide)
  have e11 := hf.cell 11 (by decide)
  have hh := l7 _ l3.1 l3.2
  have hP := hm.2.1 _ l3.1 l3.2
  have hk0 := hm.1
  refine vm_X6_act _ _ ⟨l1, l1, ?_⟩
  rw [e9, e11]
  refine cV (sp_forgetTaken σ) ?_
  rintro s1 ⟨g1, g2, g3⟩
  have f1 : Fr [42, 43, 44, 45, 46, 47, 48, 49, 50, 51, 52, 67, 68] [(41, 3), (41, 9), (40, 13)] σ s1 := g2.mo (by decide) (by decide)
  have r1 : RX m s1 := RX_fr hr g2 (by decide) (by decide) (by decide)
  refine cI (sp_takes l1) ?_
  rintro r3 s2 ⟨rfl, rfl⟩
  rw [f1.cell 8 (by decide), e8]
  -- a store behind: the same money, not failed
  have st : ∀ (ρ : AS), Fr [51] [(40, 13)] s2 ρ → RX m ρ ∧ Fr wkX wkF C ρ ∧ Fr [42, 43, 44, 45, 46, 47, 48, 49, 50, 51, 52, 67, 68] [(41, 3), (41, 9), (40, 13)] σ ρ ∧ ρ 41 9 = 0 ∧ (∀ o : Int, 0 ≤ o → o < 10 → ρ 50 o = 0) ∧ ρ 8 i = C 8 i ∧ ρ 10 i = C 10 i ∧ ρ 40 10 = σ 40 10 ∧ ρ 40 11 = σ 40 11 ∧ ρ 40 12 = σ 40 12 ∧ ρ 40 9 = t ∧ ρ 5 = C 5 := by
    intro ρ h
    have h2 : Fr [42, 43, 44, 45, 46, 47, 48, 49, 50, 51, 52, 67, 68] [(41, 3), (41, 9), (40, 13)] σ ρ := f1.tr (h.mo (by decide) (by decide))
    have h3 : Fr wkX wkF C ρ := hf.tr (h2.mo (by decide) (by decide))
    refine ⟨RX_fr r1 h (by decide) (by decide) (by decide), h3, h2, by rw [h.fld 41 9 (by decide)]; exact g1, fun o a b => by rw [h.cell 50 (by decide)]; exact g3 o a b, by rw [h3.cell 8 (by decide)], by rw [h3.cell 10 (by decide)], h2.fld 40 10 (by decide), h2.fld 40 11 (by decide), h2.fld 40 12 (by decide), by rw [h2.fld 40 9 (by decide), ht], h3.cell 5 (by decide)⟩
  have fin1 : ∀ {σ' : AS} {cs : List Nat} {fs : List (Nat × Int)} {ρ : AS}, Fr [42, 43, 44, 45, 46, 47, 48, 49, 50, 51, 52, 67, 68] [(41, 3), (41, 9), (40, 13)] σ ρ → Fr cs fs ρ σ' → (∀ c ∈ cs, c ∈ [42, 43, 44, 45, 46, 47, 48, 49, 50, 51, 52, 67, 68]) → (∀ q ∈ fs, q.1 ∈ [42, 43, 44, 45, 46, 47, 48, 49, 50, 51, 52, 67, 68] ∨ q ∈ [((41 : Nat), (3 : Int)), (41, 9), (40, 13)]) → Fr [42, 43, 44, 45, 46, 47, 48, 49, 50, 51, 52, 67, 68] [(41, 3), (41, 9), (40, 13)] σ σ' := fun a b c d => a.tr (b.mo c d)
  have hxl : ∀ {ρ : AS}, RX m ρ → ρ 41 3 ≤ 990 := fun h => by rw [RX_len h]; have := hm.2.2.1; omega
  have hcl : ∀ {ρ : AS}, RX m ρ → ∀ p' : Int, 0 ≤ p' → p' < 10 → clean (xp ρ p') ∧ psum (xp ρ p') ≤ 100000000 := fun h p' a b => by rw [h.2.1 p' a b]; have := hm.2.1 p' a b; exact ⟨this.2.1, by omega⟩
  refine ⟨fun hn => ⟨am_b0, fun _ => ?_, fun q => absurd rfl q⟩, fun hn => ?_⟩
  · have htk : ¬ tkD (C 8 i) = true := fun q => by rw [if_pos q] at hn; exact absurd hn (by decide)
    have hnk : C 8 i ≠ 1 ∧ C 8 i ≠ 2 ∧ C 8 i ≠ 3 := ⟨fun q => htk (tkD_iff.mpr (Or.inl q)), fun q => htk (tkD_iff.mpr (Or.inr (Or.inl q))), fun q => htk (tkD_iff.mpr (Or.inr (Or.inr q)))⟩
    have hfl : mfail C i m = false := by unfold mfail; simp [htk]
    have lq := l5 hnk.2.1
    obtain ⟨ρ, hρ⟩ : ∃ ρ, ρ = am_up s2 40 13 0 := ⟨_, rfl⟩
    rw [← hρ]
    obtain ⟨b1, b2, b3, b4, b5, b6, b7, b8, b9, b10, b11, b12⟩ := st ρ (by rw [hρ]; exact Fr.up Fr.rf (Or.inr (by decide)))
    have b13 : ρ 40 13 = 0 := by rw [hρ, am_up_eq, if_pos rfl]
    refine cI (sp_takes l1) ?_
    rintro r5 s4 ⟨rfl, rfl⟩
    rw [b6, b7]
    refine ⟨fun _ => ⟨l1, fun k0 => ⟨l1, ?_⟩, fun q => absurd q (by omega), fun q => absurd q (by omega), fun q => absurd q (by omega), fun k4 => ⟨l1, ?_⟩, fun k5 => ⟨l1, ?_⟩, trivial⟩, fun q => absurd (if_neg htk) q⟩
    · have exq := b1.2.1 _ l3.1 l3.2
      have := hxl b1
      refine cV (sp_receive b1.1 l3 lq (by omega) (by rw [exq]; omega) ⟨by omega, by omega⟩ (by rw [b5 _ lq.1 lq.2]; omega)) ?_
      rintro s6 ⟨τ, ⟨y1, y2, y3, y4, y5⟩, rfl⟩
      have em : mact C F t fo i m = (fuP m.1 (C 9 i) (lay (m.1 (C 9 i)) (C 10 i) (C 11 i)), m.2.1, m.2.2) := by rw [mact, if_neg htk, if_pos k0]
      refine ⟨?_, ?_, fin1 b3 (Fr.up (y2.mo (cs' := [42, 43, 44, 45, 50]) (fs' := [(41, 3)]) (by decide) (by decide)) (Or.inl (by decide))) (by decide) (by decide), ?_, fun _ o a b => ?_⟩
      · rw [em]
        refine ⟨y1, fun p a b => ?_, fun c a b => ?_, fun c a b => ?_⟩
        · show xp τ p = fuP _ _ _ p
          rw [y3 p a b, fuP, exq, b1.2.1 p a b]
        · rw [am_up_ne (by decide), y2.cell 46 (by decide)]; exact b1.2.2.1 c a b
        · rw [am_up_ne (by decide), y2.cell 47 (by decide)]; exact b1.2.2.2 c a b
      · rw [am_up_ne (by decide), y2.fld 40 13 (by decide), b13, hfl]; rfl
      · rw [am_up_ne (by decide), y2.fld 41 9 (by decide), b4]; exact Int.le_refl 0
      · rw [am_up_eq, y2.cell 50 (by decide), b5 _ lq.1 lq.2, b5 o a b, mgot, if_neg htk, if_pos k0, Int.zero_add]
    · have exq := b1.2.1 _ l3.1 l3.2
      have := hxl b1
      have hS : (fun x => s4 46 (10 * C 10 i + x)) = fun x => s4 46 (10 * C 10 i + x) := rfl
      refine cV (sp_sell b1.1 (by omega) l3 (by rw [b12]; exact hh) lq l4 (by rw [exq]; omega) (fun c a b => by rw [b1.2.2.1 c a b]; have := (hm.2.2.2 c a b).1; omega) b5) ?_
      rintro s6 ⟨y1, y2, y3, y4, y5⟩
      rw [b12, b9, hri (by omega)] at y3 y5
      have hw10 : ∀ x : Int, 0 ≤ x → x < (10 : Nat) → s4 46 (10 * C 10 i + x) = shF C i m x := fun x a b => b1.2.2.1 _ (by omega) (by omega)
      have hgg : ∀ x : Int, 0 ≤ x → x < 10 → gaiF (risF C F t i (m.1 (C 9 i))) (C 11 i) (C 5 (C 9 i)) (fun x => s4 46 (10 * C 10 i + x)) x = gnF C F t i m x := by
        intro x a b
        unfold gnF gaiF
        have h1 : sm (fun x => s4 46 (10 * C 10 i + x)) 10 = sm (shF C i m) 10 := sm_congr hw10
        have h2 := hw10 _ hh.1 (by omega)
        have h3 : ∀ j : Int, 0 ≤ j → j < (10 : Nat) → fu (fun x => s4 46 (10 * C 10 i + x)) (C 5 (C 9 i)) 0 j = fu (shF C i m) (C 5 (C 9 i)) 0 j := fun j u v => by
          unfold fu; split; · rfl
          · exact hw10 j u v
        rw [h1]
        dsimp only
        rw [h2, sm_congr h3, pq_congr hw10 a (by omega), pq_congr h3 a (by omega)]
      have em : mact C F t fo i m = (fuP m.1 (C 9 i) (layAll (m.1 (C 9 i)) (rl 10 (fun x => (x, gnF C F t i m x)))), (fun c => if 10 * C 10 i ≤ c ∧ c < 10 * C 10 i + 10 then 0 else m.2.1 c), m.2.2) := by rw [mact, if_neg htk, if_neg (by omega), if_pos (by omega)]
      refine ⟨?_, ?_, fin1 b3 y2 (by decide) (by decide), ?_, fun _ o a b => ?_⟩
      · rw [em]
        refine ⟨y1, fun p a b => ?_, fun c a b => ?_, fun c a b => ?_⟩
        · show xp s6 p = fuP _ _ _ p
          rw [y3 p a b, fuP, exq, b1.2.1 p a b, rl_congr (fun x u v => by rw [hgg x u v])]
        · rw [y4 c a b, b1.2.2.1 c a b]
        · rw [y2.cell 47 (by decide)]; exact b1.2.2.2 c a b
      · rw [y2.fld 40 13 (by decide), b13, hfl]; rfl
      · rw [y2.fld 41 9 (by decide), b4]; exact Int.le_refl 0
      · rw [y5 o a b, hgg o a b, mgot, if_neg htk, if_neg (by omega : ¬ C 8 i = 0), if_pos (by omega : C 8 i = 4)]
    · have exq := b1.2.1 _ l3.1 l3.2
      have := hxl b1
      have eL := b1.2.2.2 (10 * C 9 i + C 10 i) (by omega) (by omega)
      have bL := (hm.2.2.2 (10 * C 9 i + C 10 i) (by omega) (by omega)).2
      refine cV (sp_makeGood b1.1 (by omega) l3 lq (by rw [b12]; exact hh) l4 (by rw [exq]; omega) (by rw [eL]; omega) b5) ?_
      rintro s6 ⟨y1, y2, y3, y4, y5⟩
      rw [b12, eL] at y3 y5
      rw [eL] at y4
      have em : mact C F t fo i m = (fuP m.1 (C 9 i) (lay (lay (m.1 (C 9 i)) (C 10 i) (bkF C i m)) (C 5 (C 9 i)) (C 11 i - bkF C i m)), m.2.1, fu m.2.2 (10 * C 9 i + C 10 i) (m.2.2 (10 * C 9 i + C 10 i) - bkF C i m)) := by rw [mact, if_neg htk, if_neg (by omega), if_neg (by omega)]
      refine ⟨?_, ?_, fin1 b3 y2 (by decide) (by decide), ?_, fun _ o a b => ?_⟩
      · rw [em]
        refine ⟨y1, fun p a b => ?_, fun c a b => ?_, fun c a b => ?_⟩
        · show xp s6 p = fuP _ _ _ p
          rw [y3 p a b, fuP, exq, b1.2.1 p a b]; rfl
        · rw [y2.cell 46 (by decide)]; exact b1.2.2.1 c a b
        · rw [y4]
          show fu _ _ _ c = fu _ _ _ c
          unfold fu
          split
          · rfl
          · exact b1.2.2.2 c a b
      · rw [y2.fld 40 13 (by decide), b13, hfl]; rfl
      · rw [y2.fld 41 9 (by decide), b4]; exact Int.le_refl 0
      · rw [y5 o a b, mgot, if_neg htk, if_neg (by omega : ¬ C 8 i = 0), if_neg (by omega : ¬ C 8 i = 4)]; rfl
  · have htk : tkD (C 8 i) = true := by
      by_cases q : tkD (C 8 i) = true
      · exact q
      · exact absurd (if_neg q) hn
    have hkd := tkD_iff.mp htk
    refine cI (sp_measure (RX_T r1 hm (by rw [g1]; omega)) (by rw [r1.2.1 _ l3.1 l3.2]; omega)) ?_
    rintro r s19 ⟨m1, m2, -⟩
    rw [r1.2.1 _ l3.1 l3.2] at m1
    refine ⟨fun hle => ⟨am_b0, fun _ => ?_, fun q => absurd rfl q⟩, fun hle => ⟨am_b1, fun q => absurd q (by decide), fun _ => ?_⟩⟩
    · obtain ⟨ρ, hρ⟩ : ∃ ρ, ρ = am_up s19 40 13 0 := ⟨_, rfl⟩
      rw [← hρ]
      obtain ⟨b1, b2, b3, b4, b5, b6, b7, b8, b9, b10, b11, b12⟩ := st ρ (by rw [hρ]; exact Fr.up (m2.mo (by decide) (by decide)) (Or.inr (by decide)))
      have b13 : ρ 40 13 = 0 := by rw [hρ, am_up_eq, if_pos rfl]
      have hps : ¬ psum (m.1 (C 9 i)) < C 11 i := by omega
      have hfl : mfail C i m = false := by unfold mfail; simp [hps]
      refine cI (sp_takes l1) ?_
      rintro r5 s4 ⟨rfl, rfl⟩
      rw [b6, b12, b8]
      refine ⟨fun q => absurd q (by rw [if_pos htk]; decide), fun _ => ⟨l3, ?_⟩⟩
      obtain ⟨w1, w2⟩ := hw htk
      have exq := b1.2.1 _ l3.1 l3.2
      refine cV (sp_takeOut l3 hh w2 b1.1 ⟨by omega, l4.2⟩ (by rw [exq]; omega) (hcl b1) b4 b5) ?_
      rintro s5 ⟨y1, y2, y3, y4, y5, y6⟩
      have etw : takeW (σ 40 10) (C 11 i) (C 5 (C 9 i)) (xp s4 (C 9 i)) = twF C F t fo i m := by rw [twF, exq, w1]
      rw [etw] at y3 y4 y5 y6
      obtain ⟨t1, t2, t3, t4, t5, t6, t7⟩ := tw_ok (F := F) (t := t) (fo := fo) hm hl0 hps
      obtain ⟨rr, hrr⟩ : ∃ rr, rr = twF C F t fo i m := ⟨_, rfl⟩
      rw [← hrr] at y3 y4 y5 y6 t1 t2 t3 t4 t5 t6 t7
      have f5 : Fr wkX wkF C s5 := b2.tr (y2.mo (by decide) (by decide))
      have z8 : s5 8 i = C 8 i := by rw [f5.cell 8 (by decide)]
      have z10 : s5 10 i = C 10 i := by rw [f5.cell 10 (by decide)]
      have z13 : s5 40 13 = 0 := by rw [y2.fld 40 13 (by decide), b13]
      have xP : ∀ p : Int, 0 ≤ p → p < 10 → xp s5 p = fuP m.1 (C 9 i) (layAll [] rr.1) p := fun p a b => by
        rw [y3 p a b, fuP, b1.2.1 p a b]
      have zS : ∀ c : Int, 0 ≤ c → c < 100 → s5 46 c = m.2.1 c := fun c a b => by rw [y2.cell 46 (by decide)]; exact b1.2.2.1 c a b
      have zL : ∀ c : Int, 0 ≤ c → c < 100 → s5 47 c = m.2.2 c := fun c a b => by rw [y2.cell 47 (by decide)]; exact b1.2.2.2 c a b
      have rn : ∀ q ∈ rr.2, 0 ≤ q.2 := fun q hq => by have := (t2 q hq).1; omega
      have pb : ∀ x : Int, 0 ≤ pof x rr.2 ∧ pof x rr.2 ≤ 1000000 := fun x => by have := pof_nn (o := x) rn; omega
      have fr5 := fin1 b3 y2 (by decide) (by decide)
      rw [z8, z10]
      refine ⟨l1, fun q => absurd q (by omega), fun k1 => ?_, fun k2 => ?_, fun k3 => ⟨l1, ?_⟩, fun q => absurd q (by omega), fun q => absurd q (by omega), trivial⟩
      · have lq := l5 (by omega)
        have hne := l6 k1
        have e48 : ∀ j : Int, 0 ≤ j → j < s5 41 9 → (0 ≤ s5 48 j ∧ s5 48 j < 10) ∧ 0 < s5 49 j := by
          intro j a b
          have hj : (s5 48 j, s5 49 j) ∈ rr.2 := by rw [← y4]; exact rl_mem.mpr ⟨j, a, b, rfl⟩
          obtain ⟨x, hx, e⟩ := List.mem_map.mp (t2 _ hj).2
          have h1 := hP.1 x hx
          have h2 := (t2 _ hj).1
          dsimp only at e h2
          rw [← e]
          exact ⟨⟨h1.1, h1.2.1⟩, h2⟩
        have hsz : s5 41 3 + s5 41 9 ≤ 1010 := by
          have a1 : s5 41 3 = mst (fuP m.1 (C 9 i) (layAll [] rr.1), m.2.1, m.2.2) := by
            rw [xl_len y1]
            exact sm_congr (fun p a b => by rw [xP p a (by omega)])
          rw [mst_fuP l3] at a1
          have a2 : mst (m.1, m.2.1, m.2.2) = mst m := rfl
          have a3 := layAll_nz (r := rr.1) (l := [])
          rw [List.length_nil, Nat.zero_add] at a3
          have a4 := nz_pok hP.1
          have a5 := hm.2.2.1
          omega
        have hPq := hm.2.1 _ lq.1 lq.2
        have exq2 : xp s5 (C 10 i) = m.1 (C 10 i) := by rw [xP _ lq.1 lq.2, fuP_ne hne]
        have hn1 := psum_nn (pok_nn hPq.1)
        have hn2 := psum_nn rn
        refine cV (sp_moveOn hl0 k1 f5 hkn (by rw [y2.fld 40 9 (by decide), b11]) ⟨by omega, hsz⟩ y1 e48 (by rw [exq2, y4]; omega)) ?_
        rintro s6 ⟨x1, x2, x3⟩
        have e12 : s5 40 12 = endF C F t i (m.1 (C 9 i)) := by rw [y2.fld 40 12 (by decide), b10, he k1]
        rw [exq2, y4, e12] at x3
        have em : mact C F t fo i m = (fuP (fuP m.1 (C 9 i) (layAll [] rr.1)) (C 10 i) (layAll (m.1 (C 10 i)) (mvT C t i (endF C F t i (m.1 (C 9 i))) rr.2)), m.2.1, m.2.2) := by rw [mact, if_pos htk, if_neg hps, if_pos (by omega : C 8 i = 1), hrr]
        refine ⟨?_, ?_, fin1 fr5 x2 (by decide) (by decide), by rw [x2.fld 41 9 (by decide), y6]; omega, fun _ o a b => ?_⟩
        · rw [em]
          refine ⟨x1, fun p a b => ?_, fun c a b => ?_, fun c a b => ?_⟩
          · show xp s6 p = fuP _ _ _ p
            rw [x3 p a b, xP p a b]
            rfl
          · rw [x2.cell 46 (by decide)]; exact zS c a b
          · rw [x2.cell 47 (by decide)]; exact zL c a b
        · rw [x2.fld 40 13 (by decide), z13, hfl]; rfl
        · rw [x2.cell 50 (by decide), y5 o a b, mgot, if_pos htk, hrr]
      · refine cV (sp_spend l3 (fun c a b => by rw [zL c a b]; have := (hm.2.2.2 c a b).2; omega) (fun o a b => by rw [y5 o a b]; have := pb o; omega)) ?_
        rintro s6 rfl
        have em : mact C F t fo i m = (fuP m.1 (C 9 i) (layAll [] rr.1), m.2.1, addR m.2.2 (10 * C 9 i) (fun x => if x = C 5 (C 9 i) then 0 else pof x rr.2)) := by rw [mact, if_pos htk, if_neg hps, if_neg (by omega), if_pos (by omega), hrr]
        refine ⟨?_, ?_, fr5.tr (Fr.cl Fr.rf (by decide)), by rw [zc_ne (by decide), y6]; omega, fun _ o a b => ?_⟩
        · rw [em]
          refine ⟨y1, xP, zS, fun c a b => ?_⟩
          rw [zc_eq, f5.cell 5 (by decide)]
          show addR (s5 47) (10 * C 9 i) (fun x => if x = C 5 (C 9 i) then 0 else s5 50 x) c = addR m.2.2 (10 * C 9 i) (fun x => if x = C 5 (C 9 i) then 0 else pof x rr.2) c
          unfold addR
          split
          · rw [zL c a b]
            dsimp only
            split
            · rfl
            · rw [y5 _ (by omega) (by omega)]
          · exact zL c a b
        · rw [zc_ne (by decide), z13, hfl]; rfl
        · rw [zc_ne (by decide), y5 o a b, mgot, if_pos htk, hrr]
      · have lq := l5 (by omega)
        refine cV (sp_buy lq (fun c a b => by rw [zS c a b]; have := (hm.2.2.2 c a b).1; omega) (fun o a b => by rw [y5 o a b]; have := pb o; omega)) ?_
        rintro s6 rfl
        have em : mact C F t fo i m = (fuP m.1 (C 9 i) (layAll [] rr.1), addR m.2.1 (10 * C 10 i) (fun x => pof x rr.2), m.2.2) := by rw [mact, if_pos htk, if_neg hps, if_neg (by omega), if_neg (by omega), hrr]
        refine ⟨?_, ?_, fr5.tr (Fr.cl Fr.rf (by decide)), by rw [zc_ne (by decide), y6]; omega, fun _ o a b => ?_⟩
        · rw [em]
          refine ⟨y1, xP, fun c a b => ?_, zL⟩
          rw [zc_eq]
          show addR (s5 46) (10 * C 10 i) (fun x => s5 50 x) c = addR m.2.1 (10 * C 10 i) (fun x => pof x rr.2) c
          unfold addR
          split
          · rw [zS c a b]
            dsimp only
            rw [y5 _ (by omega) (by omega)]
          · exact zS c a b
        · rw [zc_ne (by decide), z13, hfl]; rfl
        · rw [zc_ne (by decide), y5 o a b, mgot, if_pos htk, hrr]
    · obtain ⟨b1, b2, b3, b4, b5, b6, b7, b8, b9, b10, b11, b12⟩ := st (am_up s19 40 13 1) (Fr.up (m2.mo (by decide) (by decide)) (Or.inr (by decide)))
      have hps : psum (m.1 (C 9 i)) < C 11 i := by omega
      have hfl : mfail C i m = true := by unfold mfail; simp [hps, htk]
      have em : mact C F t fo i m = m := by rw [mact, if_pos htk, if_pos hps]
      exact ⟨by rw [em]; exact b1, by rw [am_up_eq, if_pos rfl, hfl]; rfl, b3, by rw [b4]; exact Int.le_refl 0, fun q => absurd (hfl.symm.trans q) (by decide)⟩
