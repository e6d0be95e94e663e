/-! the model reads numbers between clauses; a condition, whole -/
def RSt (q : Int) (σ0 s : AS) : Prop := Fr [] [(82, 35), (82, 37)] σ0 s ∧ s 82 35 = q ∧ s 82 37 = 0
def RBd (e : Int × Int) (σ0 s : AS) : Prop := Fr [] [(82, 35), (82, 37)] σ0 s ∧ s 82 37 = -1000 * e.1 - e.2
def RNQ (σ0 : AS) : Sum (Int × Int) (Int × Int) → Int → AS → Prop
  | .inl e, _, s => RBd e σ0 s
  | .inr x, v, s => v = x.2 ∧ RSt x.1 σ0 s
section MR
variable {Ln : Int} {d : Nat} {ch : Int → Int} {n r c0 q op bh : Int} {S : List Int} {m : List (Int × Int)} {σ0 σ : AS}
theorem RBd_neg {e : Int × Int} (h : RBd e σ0 σ) (he : (1 ≤ e.1 ∧ e.1 ≤ 5) ∧ 0 ≤ e.2) : σ 82 37 < 0 := by rw [h.2]; omega
theorem RSt_bad {f p : Int} (h : RSt q σ0 σ) : RBd (f, p) σ0 (am_up σ 82 37 (-1000 * f - p)) := ⟨h.1.up (Or.inr (by decide)), by rw [am_up_eq, if_pos rfl]⟩
theorem RBd_at {e : Int × Int} {v : Int} (h : RBd e σ0 σ) : RBd e σ0 (am_up σ 82 35 v) := ⟨h.1.up (Or.inr (by decide)), by rw [am_up_eq, if_neg (by decide)]; exact h.2⟩
theorem RSt_at {q' : Int} (h : RSt q σ0 σ) : RSt q' σ0 (am_up σ 82 35 q') := ⟨h.1.up (Or.inr (by decide)), by rw [am_up_eq, if_pos rfl], by rw [am_up_eq, if_neg (by decide)]; exact h.2.2⟩
theorem lp_readsB2 {lim start v : Int} {e : Int × Int} {R : Sum (Int × Int) (Int × Int)} (hR : R = .inl e) (h : RBd e σ0 σ) (he : (1 ≤ e.1 ∧ e.1 ≤ 5) ∧ 0 ≤ e.2) : am_E Ln (d + 3) 160 23 [vR 82, vI lim, vI start, vI v] [] σ (am_rI (RNQ σ0 R)) := by
  subst hR
  have hb := RBd_neg h he
  refine vl_X12_reads_23 _ _ _ _ (cI (sp_goodB (by omega)) ?_)
  rintro r2 s1 ⟨rfl, rfl⟩
  refine ⟨fun _ => ⟨fun _ => h, fun _ => cV (sp_wrongsB hb) ?_⟩, fun z => absurd rfl z⟩
  rintro s3 rfl
  exact h
theorem lp_reads2 (hG : CG ch n (160 * r)) (hT : MTp ch n r σ0) {lim start : Int} (hs0 : 0 ≤ start) : ∀ (k : Nat) (q v : Int) (s : AS), k ≤ 6 → RSt q σ0 s → start ≤ q → q ≤ n → q - start = 6 - k → 0 ≤ v → v < vb k →
    am_E Ln (d + 3) 160 23 [vR 82, vI lim, vI start, vI v] [] s (am_rI (RNQ σ0 (nF lim start (dLoop ch k q v)))) := by
  have hn := hG.2.2.1
  have fin : ∀ (q v : Int) (s : AS) (R : Sum (Int × Int) (Int × Int)), RSt q σ0 s → q ≤ n → start ≤ q → R = nF lim start (.inr (q, v)) → (v ≤ lim → (am_rI (RNQ σ0 R)) (some (vI v)) s) ∧ (¬ (v ≤ lim) → ∃ T : Option AV → AS → Prop, am_M Ln (d + 3) 153 [vR 82, vI 3, vI start] s T ∧ ∀ s3, T none s3 → (am_rI (RNQ σ0 R)) (some (vI v)) s3) := by
    intro q v s R h hq hsq hR
    subst hR
    unfold nF
    refine ⟨fun z => ?_, fun z => cV (sp_wrongs h.2.2 (by decide) (by omega)) ?_⟩
    · dsimp only
      rw [if_neg (by omega)]
      exact ⟨rfl, h⟩
    · rintro s3 rfl
      dsimp only
      rw [if_pos (by omega)]
      exact RSt_bad h
  intro k
  induction k with
  | zero =>
    intro q v s hk h hsq hq hqs hv0 hv1
    have hT' := MTp_fr hT (h.1.mo (by decide) (by decide))
    have h35 : s 82 35 = q := h.2.1
    refine vl_X12_reads_23 _ _ _ _ (cI (sp_goodG h.2.2) ?_)
    rintro r2 s1 ⟨rfl, rfl⟩
    refine ⟨fun z => absurd z (by decide), fun _ => cI (sp_seesDigit (d := d + 1) hG hT' h35 (by omega)) ?_⟩
    rintro r5 s4 ⟨hd, rfl⟩
    refine ⟨fun z => ?_, fun z => ?_⟩
    · exact fin q v s4 _ h hq hsq (by rw [dLoop, if_neg (fun y => (hd.mpr y) z)])
    · rw [h35, w32_id (x := start + 6) (by omega) (by omega)]
      refine ⟨fun _ => cV (sp_wrongs h.2.2 (by decide) (by omega)) ?_, fun y => absurd (by omega) y⟩
      rintro s7 rfl
      have f1 : Fr [] [(82, 37)] s4 (am_up s4 82 37 (-1000 * 2 - q)) := Fr.up Fr.rf (Or.inr (by decide))
      refine cI (sp_here (d := d + 2) (q := q) hG (MTp_fr hT' (f1.mo (by decide) (by decide))) (by rw [f1.fld 82 35 (by decide)]; exact h35) (by omega)) ?_
      rintro r9 s8 ⟨-, rfl⟩
      refine lp_readsB2 (e := (2, q)) ?_ (RBd_at (RSt_bad h)) ⟨by dsimp only; decide, by show 0 ≤ q; omega⟩
      rw [dLoop, if_pos (hd.mp z)]
      rfl
  | succ k ih =>
    intro q v s hk h hsq hq hqs hv0 hv1
    have hT' := MTp_fr hT (h.1.mo (by decide) (by decide))
    have h35 : s 82 35 = q := h.2.1
    have hvl := vb_le hk
    have hvs := vb_s (m := k) (by omega)
    refine vl_X12_reads_23 _ _ _ _ (cI (sp_goodG h.2.2) ?_)
    rintro r2 s1 ⟨rfl, rfl⟩
    refine ⟨fun z => absurd z (by decide), fun _ => cI (sp_seesDigit (d := d + 1) hG hT' h35 (by omega)) ?_⟩
    rintro r5 s4 ⟨hd, rfl⟩
    refine ⟨fun z => ?_, fun z => ?_⟩
    · exact fin q v s4 _ h hq hsq (by rw [dLoop, if_neg (fun y => (hd.mpr y) z)])
    · have hd' := hd.mp z
      have hr : 48 ≤ ch q ∧ ch q ≤ 57 := of_decide_eq_true hd'
      have hqlt : q < n := by
        by_cases y : n ≤ q
        · have := hG.1 q y; omega
        · omega
      rw [h35, w32_id (x := start + 6) (by omega) (by omega)]
      refine ⟨fun y => absurd y (by omega), fun _ => cI (sp_here (d := d + 2) hG hT' h35 (by omega)) ?_⟩
      rintro r11 s10 ⟨rfl, rfl⟩
      rw [h35, w32_id (x := q + 1) (by omega) (by omega), w32_id (x := 10 * v) (by omega) (by omega), w32_id (x := 10 * v + ch q) (by omega) (by omega), w32_id (x := 10 * v + ch q - 48) (by omega) (by omega), dLoop, if_pos hd']
      exact ih (q + 1) (10 * v + ch q - 48) _ (by omega) (RSt_at h) (by omega) (by omega) (by omega) (by omega) (by omega)
theorem sp_reads2 (hG : CG ch n (160 * r)) (hT : MTp ch n r σ0) {lim : Int} (hl : 0 ≤ lim) (h : RSt q σ0 σ) (hq : 0 ≤ q ∧ q ≤ n) : am_M Ln (d + 4) 160 [vR 82, vI lim] σ (am_rI (RNQ σ0 (pNum ch lim q))) := by
  have hn := hG.2.2.1
  have hT' := MTp_fr hT (h.1.mo (by decide) (by decide))
  have h35 : σ 82 35 = q := h.2.1
  refine vm_X12_reads _ _ (cI (sp_seesDigit (d := d + 1) hG hT' h35 hq.1) ?_)
  rintro r2 s1 ⟨hd, rfl⟩
  rw [h35]
  refine ⟨fun z => cV (sp_wrongs h.2.2 (by decide) (by omega)) ?_, fun z => ?_⟩
  · rintro s3 rfl
    refine lp_readsB2 (e := (1, q)) ?_ (RSt_bad h) ⟨by dsimp only; decide, hq.1⟩
    unfold pNum
    rw [if_neg (fun y => (hd.mpr y) z)]
  · have key := lp_reads2 (Ln := Ln) (d := d) (lim := lim) hG hT hq.1 6 q 0 s1 (Nat.le_refl 6) h (Int.le_refl q) hq.2 (by omega) (by omega) (by decide)
    unfold pNum
    rw [if_pos (hd.mp z)]
    exact key
/-- a sign that must stand there -/
theorem sp_must {c : Int} (hG : CG ch n (160 * r)) (hT : MTp ch n r σ0) (h : RSt q σ0 σ) (hq : 0 ≤ q ∧ q ≤ n) : am_M Ln (d + 2) 161 [vR 82, vI c] σ (am_rV fun s => (ch q = c → RSt (q + 1) σ0 s) ∧ (ch q ≠ c → RBd (1, q) σ0 s)) := by
  have hn := hG.2.2.1
  refine vm_X12_must _ _ (cI (sp_here (d := d) hG (MTp_fr hT (h.1.mo (by decide) (by decide))) h.2.1 hq.1) ?_)
  rintro r2 s1 ⟨rfl, rfl⟩
  rw [h.2.1, w32_id (x := q + 1) (by omega) (by omega)]
  refine ⟨fun z => ⟨fun _ => RSt_at h, fun y => absurd z y⟩, fun z => cV (sp_wrongs (d := d) h.2.2 (by decide) (by omega)) ?_⟩
  rintro s3 rfl
  exact ⟨fun y => absurd y z, fun _ => RBd_at (RSt_bad h)⟩
def pCo (ch : Int → Int) (n q : Int) : Rs := if ch q = 40 then pIn ch 41 (pCond ch n (pPiece ch n 5)) q else .inl (1, q)
def MCQ (r c0 : Int) (σ0 : AS) : Rs → AS → Prop
  | .inl e, s => BAD r c0 e σ0 s
  | .inr x, s => ∃ m, MDN r c0 x.1 m σ0 s ∧ SM m 198 x.2
theorem sp_condition (hG : CG ch n (160 * r)) (hT : MTp ch n r σ) (hr : 0 ≤ r ∧ r < 20) (hc : 0 ≤ c0) (h35 : σ 82 35 = q) (h37 : σ 82 37 = 0) (h39 : σ 82 39 = c0) (hq : c0 ≤ q ∧ q ≤ n) : am_M Ln (d + 8) 173 [vR 82] σ (am_rV (MCQ r c0 σ (pCo ch n q))) := by
  have hn := hG.2.2.1
  obtain ⟨τ, hτ⟩ : ∃ τ, τ = am_up (am_up (am_up σ 82 41 0) 82 40 0) 82 42 0 := ⟨_, rfl⟩
  have hf : Fr [] [(82, 41), (82, 40), (82, 42)] σ τ := by
    rw [hτ]
    exact Fr.up (Fr.up (Fr.up Fr.rf (Or.inr (by decide))) (Or.inr (by decide))) (Or.inr (by decide))
  have hM : MPr r c0 q 0 (σ 82 43) [] [] σ τ := by
    refine ⟨hf.mo (by decide) (by decide), fun j hj => by rw [hf.cell 106 (by decide), hf.cell 107 (by decide)]; exact ⟨rfl, rfl⟩, ⟨?_, ?_, ?_, ?_, ?_, ?_, ?_⟩, rfl, rfl, ?_⟩
    · rw [hf.fld 82 35 (by decide)]; exact h35
    · rw [hf.fld 82 37 (by decide)]; exact h37
    · rw [hf.fld 82 39 (by decide), h39]; show c0 = c0 + 0; omega
    · rw [hτ, am_up_eq, if_neg (by decide), am_up_eq, if_pos rfl]
    · rw [hτ, am_up_eq, if_neg (by decide), am_up_eq, if_neg (by decide), am_up_eq, if_pos rfl]; rfl
    · rw [hτ, am_up_eq, if_pos rfl]
    · exact hf.fld 82 43 (by decide)
    · show c0 + 0 + 0 ≤ q; omega
  refine vm_X12_condition _ ⟨am_b0, ?_⟩
  rw [← hτ]
  refine cI (sp_here (d := d + 6) hG (MTp_fr hT hM.1) hM.2.2.1.1 (by omega)) ?_
  rintro r2 s1 ⟨rfl, rfl⟩
  refine ⟨fun z => cI (sp_goodG (d := d + 6) hM.2.2.1.2.1) ?_, fun z => ?_⟩
  · rintro r4 s3 ⟨rfl, rfl⟩
    refine ⟨fun w => absurd w (by decide), fun _ => ?_⟩
    have hlt := ch_lt hG.1 z (by decide)
    refine cV (sp_opens (d := d + 5) hG (MTp_fr hT hM.1) hM ⟨by omega, hlt⟩ hc (by decide)) ?_
    intro s5 h5
    rw [z] at h5
    have hgI := gd_in hG.1 (cl := 41) (by decide) (gd_cond hG.1 (gd_piece hG.1 5)) (q := q) (by omega) hlt
    have hco : pCo ch n q = pIn ch 41 (pCond ch n (pPiece ch n 5)) q := by unfold pCo; rw [if_pos z]
    have fau : ∀ e, pCo ch n q = .inl e → KB r c0 σ (am_rV (MCQ r c0 σ (pCo ch n q))) e := by
      intro e he
      rw [← hco, he] at hgI
      refine ⟨⟨hgI.1, hgI.2.1⟩, fun s hs => ?_⟩
      show MCQ r c0 σ (pCo ch n q) s
      rw [he]
      exact hs
    have hcm := tcond (Ln := Ln) (d := d) (Qc := am_rV (MCQ r c0 σ (pCo ch n q))) hG hT hr hc (k := 5) (by omega) (piecems hG hT hr hc 5 (by omega))
    refine cl_P (d := d) h5.2.2.1.2.1 h5.2.2.1.2.2.2.2.2.1 (hcm [] [] (q + 1) (s3 82 43) s5 ?_ (by omega) (by omega) (fun e h1 => fau e (by rw [hco]; unfold pIn; rw [h1])) (fun x h1 h41 => fau _ (hco.trans (pIn_no h1 h41))) (fun x pe m1 s bh' h1 h41 hsm hpe hs => ?_))
    · rw [show (6 - ((5 : Nat) : Int)) = 0 + 1 by decide]
      have e43 : s3 82 43 = σ 82 43 := hf.fld 82 43 (by decide)
      rw [e43]
      exact h5
    · have hg := gd_cond hG.1 (gd_piece hG.1 (n := n) 5) (q + 1) (by omega) (by omega)
      rw [h1] at hg
      have hy := hg.1
      refine gb_C hG hT hr hc hs ⟨by omega, hy.2⟩ hpe h41 (by decide) (fun _ s9 hs9 => ?_) (fun w => absurd rfl w)
      show MCQ r c0 σ (pCo ch n q) s9
      rw [hco, pIn_ok h1 h41]
      exact ⟨m1 ++ jc pe, hs9, SM_mono hsm (by decide)⟩
  · rw [hM.2.2.1.1]
    refine cV (sp_wrongs (d := d + 6) hM.2.2.1.2.1 (by decide) (by omega)) ?_
    rintro s6 rfl
    have hb : BAD r c0 (1, q) σ (am_up s1 82 37 (-1000 * 1 - q)) := MPr_bad hM
    have hneg := BAD_neg hb ⟨by dsimp only; decide, by show 0 ≤ q; omega⟩
    refine cI (sp_goodB (d := d + 6) (by omega)) ?_
    rintro r8 s7 ⟨rfl, rfl⟩
    refine ⟨fun _ => ?_, fun w => absurd rfl w⟩
    show MCQ r c0 σ (pCo ch n q) _
    unfold pCo
    rw [if_neg z]
    exact hb
end MR
