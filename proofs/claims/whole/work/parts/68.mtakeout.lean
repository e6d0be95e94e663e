/-! what a way takes out, in the model -/
def mout (σ : AS) (p : Int) (r : MP × MP) (σ' : AS) : Prop := Fr [113, 114, 115, 118, 119, 120] [(82, 54)] σ σ' ∧ mp σ' p = layAll [] r.1 ∧ (∀ p' : Int, 0 ≤ p' → p' < 10 → p' ≠ p → mp σ' p' = mp σ p') ∧ mt σ' = layAll [] r.2 ∧ 0 ≤ σ' 82 54 ∧ ∀ p' : Int, 0 ≤ p' → p' < 10 → 0 ≤ σ' 113 p' ∧ σ' 113 p' ≤ σ 113 p'
theorem mtk_tr {σ σ1 σ2 : AS} {p : Int} {l1 l2 t1 t2 : MP} {n1 n2 : Int} (h : mtk σ p l1 t1 n1 σ1) (h2 : mtk σ1 p l2 t2 n2 σ2) : mtk σ p l2 (t1 ++ t2) (n1 + n2) σ2 := by
  obtain ⟨a1, a2, a3, a4, a5, a6⟩ := h
  obtain ⟨b1, b2, b3, b4, b5, b6⟩ := h2
  exact ⟨a1.tr b1, b2, fun p' a b e => by rw [b3 p' a b e, a3 p' a b e], by rw [b4, a4, ← layAll_app], b5, by omega⟩
theorem mt_len {σ : AS} (h : 0 ≤ σ 82 54) : ((mt σ).length : Int) = σ 82 54 := by
  unfold mt
  rw [rl_len]
  omega
set_option maxHeartbeats 2000000 in
theorem sp_takesOut {Ln : Int} {d : Nat} {p s way h : Int} {n : Nat} {σ : AS} (hp : 0 ≤ p ∧ p < 10) (hT : MT σ) (hh : σ 84 p = h) (hway : 0 ≤ way ∧ way ≤ 4) (hn : σ 82 3 = n) (hn2 : n ≤ 10) (hpn : ∀ q ∈ mp σ p, q.1 < n) (hpk : pok (mp σ p)) (hs : 0 < s ∧ s ≤ 1000000) (hss : s ≤ psum (mp σ p)) :
    am_M Ln (d + 5) 188 [vR 82, vI p, vI s, vI way] σ (am_rV (mout σ p (takeW way s h (mp σ p)))) := by
  obtain ⟨l, hl⟩ : ∃ l, l = mp σ p := ⟨_, rfl⟩
  obtain ⟨rr, hrr⟩ : ∃ rr, rr = takeW way s h l := ⟨_, rfl⟩
  obtain ⟨ρ, hρ⟩ : ∃ ρ, ρ = am_up σ 82 54 0 := ⟨_, rfl⟩
  obtain ⟨h1, h2, h3⟩ := hT p hp.1 hp.2
  have hnn : ∀ x ∈ l, 0 ≤ x.2 := fun x hx => (h2 x (by rw [← hl]; exact hx)).2
  have fρ : Fr [] [(82, 54)] σ ρ := by rw [hρ]; exact Fr.up Fr.rf (Or.inr (by decide))
  have ρ54 : ρ 82 54 = 0 := by rw [hρ, am_up_eq, if_pos rfl]
  have ρT : MT ρ := MT_eq hT (fρ.cell 113 (by decide)) (fρ.cell 114 (by decide)) (fρ.cell 115 (by decide))
  have ρp : mp ρ p = l := by rw [hl]; exact mp_eq (fρ.cell 113 (by decide)) (fρ.cell 114 (by decide)) (fρ.cell 115 (by decide))
  have ρt : mt ρ = [] := by unfold mt; rw [ρ54]; rfl
  have hlen : (l.length : Int) ≤ 1390 := by rw [hl, mp_len h1.1]; exact h1.2
  rw [← hl] at hss hpn hpk h3
  have htk := tk_takeW (way := way) (h := h) hpk hs.1 hss
  have per : ∀ {a : MP}, (∀ q ∈ a, 0 ≤ q.2) → a.map Prod.fst = l.map Prod.fst → ∀ x ∈ a, (0 ≤ x.1 ∧ x.1 < 10) ∧ 0 ≤ x.2 := by
    intro a ha hm x hx
    have h1 : x.1 ∈ l.map Prod.fst := by rw [← hm]; exact List.mem_map.mpr ⟨x, hx, rfl⟩
    obtain ⟨y, hy, e⟩ := List.mem_map.mp h1
    rw [← e]
    exact ⟨(h2 y (by rw [← hl]; exact hy)).1, ha x hx⟩
  rw [← hrr] at htk
  have fin : ∀ (N : Int) (σ1 s1 : AS), Fr [120] [] ρ σ1 → mtk σ1 p rr.1 rr.2 N s1 → ∃ T : Option AV → AS → Prop, am_M Ln (d + 4) 187 [vR 82, vI p] s1 T ∧ ∀ s2, T none s2 → am_rV (mout σ p rr) none s2 := by
    intro N σ1 s1 f1 hk
    obtain ⟨t1, t2, t3, t4, t5, t6, t7⟩ := htk
    have p1 := psum_nn t1
    have p2 := psum_nn (l := rr.2) (fun q hq => by have := (t2 q hq).1; omega)
    have T1 : MT σ1 := MT_eq ρT (f1.cell 113 (by decide)) (f1.cell 114 (by decide)) (f1.cell 115 (by decide))
    have T2 : MT s1 := MT_mtk T1 hk (per t1 t6) (by omega)
    obtain ⟨k1, k2, k3, k4, k5, k6⟩ := hk
    have e1 : ∀ p', mp σ1 p' = mp ρ p' := fun p' => mp_eq (f1.cell 113 (by decide)) (f1.cell 114 (by decide)) (f1.cell 115 (by decide))
    have e2 : ∀ p', mp ρ p' = mp σ p' := fun p' => mp_eq (fρ.cell 113 (by decide)) (fρ.cell 114 (by decide)) (fρ.cell 115 (by decide))
    have e113 : s1 113 = σ 113 := by rw [k1.cell 113 (by decide), f1.cell 113 (by decide), fρ.cell 113 (by decide)]
    refine cV (sp_closes hp T2) ?_
    rintro s2 ⟨c1, c2, c3, c4⟩
    refine ⟨(fρ.mo (by decide) (by decide)).tr ((f1.mo (by decide) (by decide)).tr ((k1.mo (by decide) (by decide)).tr (c1.mo (by decide) (by decide)))), by rw [c2, k2], fun p' a b e => by rw [c3 p' a b e, k3 p' a b e, e1, e2], ?_, by rw [c1.fld 82 54 (by decide)]; exact k5, fun p' a b => by rw [← e113]; exact c4 p' a b⟩
    rw [mt_eq (c1.fld 82 54 (by decide)) (c1.cell 118 (by decide)) (c1.cell 119 (by decide)), k4, mt_eq (f1.fld 82 54 (by decide)) (f1.cell 118 (by decide)) (f1.cell 119 (by decide)), ρt]
  have fin0 := fun N s1 (hk : mtk ρ p rr.1 rr.2 N s1) => fin N ρ s1 Fr.rf hk
  -- two passes
  have two : ∀ (e1 e2 : Int) (f g : Int → Bool), ((e1 = 1 ∧ f = fI h) ∨ (e1 = 0 ∧ f = fN h)) → ((e2 = 1 ∧ g = fI h) ∨ (e2 = 0 ∧ g = fN h)) → (∀ x, g x = !f x) → rr = gr2 f g s l → ∃ T : Option AV → AS → Prop, am_M Ln (d + 4) 185 [vR 82, vI p, vI h, vI e1, vI s] ρ T ∧ ∀ (r7 : Int) s6, T (some (vI r7)) s6 →
      (s6 84 p = h ∧ ∃ T : Option AV → AS → Prop, am_M Ln (d + 4) 185 [vR 82, vI p, vI h, vI e2, vI r7] s6 T ∧ ∀ (r9 : Int) s8, T (some (vI r9)) s8 → ∃ T : Option AV → AS → Prop, am_M Ln (d + 4) 187 [vR 82, vI p] s8 T ∧ ∀ s2, T none s2 → am_rV (mout σ p rr) none s2) := by
    intro e1 e2 f g hf hg hfg hr2
    have hnt := nf_two (l := l) hfg
    have n1 := nf_nn (f := f) (l := l)
    have n2 := nf_nn (f := g) (l := l)
    refine cI (sp_mtakesOf hp hf ρT ⟨by omega, by omega⟩ (by rw [ρt]; exact fun q hq => by cases hq) (by rw [ρt, psum_nil]; omega) ⟨by omega, by rw [ρp]; omega⟩) ?_
    rintro r s6 ⟨q1, hk⟩
    rw [ρp] at q1 hk
    have hga := gr_all (f := f) (w := s) hnn (by omega)
    obtain ⟨g1, g2, g3, g4, g5, g6⟩ := hga
    have gf := gr_fst (f := f) (l := l) (w := s)
    have pp1 := psum_nn g1
    have pp2 := psum_nn (l := (gr f s l).2.1) (fun q hq => by have := (g2 q hq).1; omega)
    have T6 := MT_mtk ρT hk (per g1 gf) (by omega)
    have hk0 := hk
    obtain ⟨k1, k2, k3, k4, k5, k6⟩ := hk
    refine ⟨by rw [k1.cell 84 (by decide), fρ.cell 84 (by decide)]; exact hh, ?_⟩
    have emt : psum (mt s6) = psum (gr f s l).2.1 := by
      rw [k4, ρt, layAll_psum (fun q hq => by have := (g2 q hq).1; omega)]
      show 0 + _ = _
      omega
    refine cI (sp_mtakesOf hp hg T6 ⟨by omega, by omega⟩ (by rw [k4]; exact layAll_nn (by rw [ρt]; exact fun q hq => by cases hq)) (by omega) ⟨k5, by rw [k2, nf_map gf]; omega⟩) ?_
    rintro r8 s8 ⟨-, hk8⟩
    rw [k2, q1] at hk8
    refine fin0 (nf f l + nf g (gr f s l).1) s8 ?_
    rw [hr2]
    exact mtk_tr hk0 hk8
  rw [← hl, ← hrr]
  refine vm_X12_takesOut _ _ _ _ ?_
  rw [← hρ, hh]
  refine ⟨fun w0 => ?_, fun w0 => ⟨fun w1 => ⟨hp, ?_⟩, fun w1 => ⟨fun w2 => ?_, fun w2 => ⟨hp, fun w3 => ?_, fun w3 => ?_⟩⟩⟩⟩
  · refine cI (sp_mtakesOf (f := fN (-1)) hp (Or.inr ⟨rfl, rfl⟩) ρT ⟨by omega, by omega⟩ (by rw [ρt]; exact fun q hq => by cases hq) (by rw [ρt, psum_nil]; omega) ⟨by omega, by rw [ρp]; have := nf_le (f := fN (-1)) (l := l); omega⟩) ?_
    rintro r s1 ⟨-, hk⟩
    rw [ρp] at hk
    refine fin0 (nf (fN (-1)) l) s1 ?_
    rw [hrr, takeW, if_neg (by omega), if_neg (by omega), if_neg (by omega), if_neg (by omega)]
    exact hk
  · have e113 : σ 113 = ρ 113 := (fρ.cell 113 (by decide)).symm
    have hr := (ρT p hp.1 hp.2).1
    rw [e113, w32_id (x := 1400 * p) (by omega) (by omega), w32_id (x := 1400 * p + ρ 113 p) (by omega) (by omega), w32_id (by omega) (by omega)]
    obtain ⟨k, hk⟩ : ∃ k : Nat, ρ 113 p = k := ⟨(ρ 113 p).toNat, by omega⟩
    have hfull : mpf ρ p k = l := by rw [← ρp, ← hk]; rfl
    rw [hk]
    refine lp_back hp k ρ s hr (by omega) (by rw [hfull]; exact fun q hq => ⟨hnn q hq, by have := psum_mem hnn q hq; omega⟩) ⟨by omega, by omega⟩ (by rw [ρt]; exact fun q hq => by cases hq) (by rw [ρt, psum_nil]; omega) ⟨by omega, by omega⟩ ?_
    rintro s1 ⟨y1, y2, y3, y4, y5, y6⟩
    rw [hfull] at y2 y4
    have z113 : s1 113 = ρ 113 := y1.cell 113 (by decide)
    refine fin0 (k : Int) s1 ?_
    rw [hrr, takeW, if_pos w1]
    refine ⟨y1, ?_, fun p' a b e => mp_other z113 (y1.cell 114 (by decide)) (fun j u v => y3 j ?_), y4, y5, y6⟩
    · rw [← y2, ← hk, ← z113]; rfl
    · have := (ρT p' a b).1
      omega
  · refine cV (sp_takesByParts hp ρT (by rw [fρ.fld 82 3 (by decide)]; exact hn) hn2 (by rw [ρp]; exact hpn) hs (by rw [ρp]; exact hss) ρ54) ?_
    rintro s4 ⟨σ1, f1, hk⟩
    rw [ρp] at hk
    refine fin (l.length : Int) σ1 s4 f1 ?_
    have e : takeW 2 s 0 l = rr := by
      rw [hrr, w2]
      unfold takeW
      rw [if_neg (show ¬ (2 : Int) = 1 by decide), if_pos rfl, if_neg (show ¬ (2 : Int) = 1 by decide), if_pos rfl]
    rw [← e]
    exact hk
  · obtain ⟨T, a, b⟩ := two 1 0 (fI h) (fN h) (Or.inl ⟨rfl, rfl⟩) (Or.inr ⟨rfl, rfl⟩) (fun x => rfl) (by rw [hrr, takeW, if_neg (by omega), if_neg (by omega), if_pos w3])
    refine ⟨T, a, fun r7 s6 q => ?_⟩
    obtain ⟨c1, c2⟩ := b r7 s6 q
    rw [c1]
    exact ⟨hp, fun _ => c2, fun q => absurd w3 q⟩
  · obtain ⟨T, a, b⟩ := two 0 1 (fN h) (fI h) (Or.inr ⟨rfl, rfl⟩) (Or.inl ⟨rfl, rfl⟩) (fun x => by unfold fI fN; simp) (by rw [hrr, takeW, if_neg (by omega), if_neg (by omega), if_neg (by omega), if_pos (by omega)])
    refine ⟨T, a, fun r7 s6 q => ?_⟩
    obtain ⟨c1, c2⟩ := b r7 s6 q
    rw [c1]
    exact ⟨hp, fun q => absurd q w3, fun _ => c2⟩
