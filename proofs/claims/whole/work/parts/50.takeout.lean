/-! the whole of taking out -/
/-- the ten passes by quotas -/
theorem lp_takeOut {Ln : Int} {d : Nat} {σ0 : AS} {p s : Int} {q : Int → Int} {T : AS → Prop} (hp : 0 ≤ p ∧ p < 10) (hw : XW σ0) (hs : 0 ≤ s ∧ s ≤ 100000000) (hps : psum (xp σ0 p) ≤ 100000000) (hcl : ∀ p' : Int, 0 ≤ p' → p' < 10 → clean (xp σ0 p') ∧ psum (xp σ0 p') ≤ 100000000)
    (h9 : σ0 41 9 = 0) (ht : xt σ0 = []) (hg : ∀ o : Int, 0 ≤ o → o < 10 → σ0 50 o = 0) (hq : ∀ o : Int, 0 ≤ o → o < 10 → σ0 52 o = q o) (hq0 : ∀ o : Int, 0 ≤ o → o < 10 → 0 ≤ q o ∧ q o ≤ s)
    (hT : ∀ σ', xout σ0 p (gq q (xp σ0 p) 10) σ' → T σ') : ∀ (m k : Nat) (σ : AS), xtk σ0 p (gq q (xp σ0 p) k).1 (gq q (xp σ0 p) k).2 σ → σ 41 9 ≤ nf (fun x => decide (x < (k : Int))) (xp σ0 p) → k + m = 10 →
    am_E Ln (d + 3) 78 40 [vR 41, vI p, vU, vU, vU, vI (k : Int)] [] σ (am_rV T) := by
  have hok := xp_ok hw p
  have hnn := pok_nn hok
  have tk : ∀ k : Nat, k ≤ 10 → tkOK (sm q k) k (xp σ0 p) (gq q (xp σ0 p) k) := fun k hk => tk_gq hnn (fun o a b => (hq0 o a (by omega)).1)
  intro m
  induction m with
  | zero =>
    intro k σ hx hn hk
    obtain rfl : k = 10 := by omega
    have t1 := tk 10 (by omega)
    refine vl_X9_takeOut_40 _ _ _ ⟨fun _ => cV (sp_out hp hcl ht hg (fun x hx => by have := (t1.2.1 x hx).1; omega) t1.2.2.2.1 hx) (fun s1 k1 => hT s1 k1), fun h => absurd (by omega) h⟩
  | succ m ih =>
    intro k σ hx hn hk
    have t1 := tk k (by omega)
    obtain ⟨a1, a2, a3, a4, a5, a6⟩ := hx
    have e52 : σ 52 = σ0 52 := a2.cell 52 (by decide)
    have hqk := hq0 k (by omega) (by omega)
    refine vl_X9_takeOut_40 _ _ _ ⟨fun h => absurd h (by omega), fun _ => ⟨⟨by omega, by omega⟩, ?_⟩⟩
    rw [e52, hq k (by omega) (by omega)]
    have enf : nf (fun x => decide (x = (k : Int))) (xp σ p) = nf (fun x => decide (x = (k : Int))) (xp σ0 p) := nf_map (by rw [a3]; exact t1.2.2.2.2.2.1)
    have hlt := nf_lt (k := (k : Int)) (l := xp σ0 p)
    have hle := nf_le (f := fun x => decide (x < (k : Int) + 1)) (l := xp σ0 p)
    have hlen := xp_len (σ := σ0) (p := p) hw.1.1
    have hz := hw.1
    refine cI (sp_takeOf a1 ⟨hqk.1, by omega⟩ (fun x b c => ?_) ?_) ?_
    · rw [a6 x b c, hg x b c]
      have h1 := t1.2.2.1 x
      have h2 := (pof_nn (o := x) t1.1).1
      have h3 := (pof_nn (o := x) (l := (gq q (xp σ0 p) k).2) (fun y hy => by have := (t1.2.1 y hy).1; omega)).1
      have h4 := (pof_nn (o := x) hnn).2
      omega
    · rw [xp_sf, enf]
      omega
    · intro r σ1 hp1
      obtain ⟨-, b2, b3, -⟩ := xtk_pass hp1
      rw [a3] at b2
      rw [enf] at b3
      rw [w32_id (by omega) (by omega)]
      have key := ih (k + 1) σ1 (xtk_tr ⟨a1, a2, a3, a4, a5, a6⟩ b2) (by rw [show ((k + 1 : Nat) : Int) = (k : Int) + 1 by omega]; omega) (by omega)
      rw [show ((k + 1 : Nat) : Int) = (k : Int) + 1 by omega] at key
      exact key
theorem xtk_0 {σ : AS} {p : Int} (h : XT σ) : xtk σ p (xp σ p) [] σ := ⟨h, Fr.rf, rfl, fun _ _ => rfl, by rw [List.append_nil], fun o _ _ => by simp [pof]⟩
set_option maxHeartbeats 4000000 in
theorem sp_takeOut {Ln : Int} {d : Nat} {σ : AS} {p s way h : Int} (hp : 0 ≤ p ∧ p < 10) (hh : 0 ≤ h ∧ h < 10) (hway : 0 ≤ way ∧ way ≤ 4) (hw : XW σ) (hs : 0 < s ∧ s ≤ 1000000) (hss : s ≤ psum (xp σ p)) (hcl : ∀ p' : Int, 0 ≤ p' → p' < 10 → clean (xp σ p') ∧ psum (xp σ p') ≤ 100000000)
    (h9 : σ 41 9 = 0) (hg : ∀ o : Int, 0 ≤ o → o < 10 → σ 50 o = 0) : am_M Ln (d + 4) 78 [vR 41, vI p, vI s, vI way, vI h] σ (am_rV (xout σ p (takeW way s h (xp σ p)))) := by
  have hT : XT σ := XW_T hw (fun p' a b => by have := (hcl p' a b).2; omega) (by omega)
  have ht : xt σ = [] := by unfold xt; rw [h9]; rfl
  have hok := xp_ok hw p
  have hnn := pok_nn hok
  have hps := (hcl p hp.1 hp.2).2
  have tk := tk_takeW (way := way) (h := h) hok hs.1 hss
  have hz := hw.1
  have hlen := xp_len (σ := σ) (p := p) hz.1
  have hg0 : ∀ x : Int, 0 ≤ x → x < 10 → 0 ≤ σ 50 x ∧ σ 50 x + s ≤ 1000000000 := fun x a b => by rw [hg x a b]; omega
  have hfr : ∀ q ∈ (takeW way s h (xp σ p)).2, 0 ≤ q.2 := fun q hq => by have := (tk.2.1 q hq).1; omega
  have fin : ∀ {σ1 : AS}, xtk σ p (takeW way s h (xp σ p)).1 (takeW way s h (xp σ p)).2 σ1 → ∃ T : Option AV → AS → Prop, am_M Ln (d + 3) 83 [vR 41] σ1 T ∧ ∀ s1, T none s1 → am_rV (xout σ p (takeW way s h (xp σ p))) none s1 := fun hx => cV (sp_out hp hcl ht hg hfr tk.2.2.2.1 hx) (fun s1 k => k)
  -- one pass and its second
  have two : ∀ {f g : Int → Bool} {σ1 σ2 : AS} {r1 r2 : Int}, (∀ x, g x = !f x) → xpass f σ p 0 s r1 σ1 → xpass g σ1 p 0 r1 r2 σ2 → xtk σ p (gr2 f g s (xp σ p)).1 (gr2 f g s (xp σ p)).2 σ2 := by
    intro f g σ1 σ2 r1 r2 hfg k1 k2
    obtain ⟨a1, a2, a3, a4⟩ := xtk_pass k1
    obtain ⟨b1, b2, b3, b4⟩ := xtk_pass k2
    rw [a2.2.2.1, a1] at b2
    exact xtk_tr a2 b2
  have pre2 : ∀ {f g : Int → Bool} {σ1 : AS} {r1 : Int}, (∀ x, g x = !f x) → xpass f σ p 0 s r1 σ1 → XT σ1 ∧ (0 ≤ r1 ∧ r1 ≤ 1000000000) ∧ (∀ x : Int, 0 ≤ x → x < 10 → 0 ≤ σ1 50 x ∧ σ1 50 x + r1 ≤ 1000000000) ∧ σ1 41 9 + nf g (pj p (xsf σ1 0)) ≤ 1010 := by
    intro f g σ1 r1 hfg k1
    obtain ⟨a1, a2, a3, a4⟩ := xtk_pass k1
    obtain ⟨c1, c2, c3, c4, c5, c6⟩ := gr_all (f := f) (w := s) hnn (by omega)
    have hr : r1 ≤ s := by
      have := psum_nn (l := (gr f s (xp σ p)).2.1) (fun q hq => by have := (c2 q hq).1; omega)
      omega
    refine ⟨a2.1, ⟨a4, by omega⟩, fun x b c => ?_, ?_⟩
    · rw [a2.2.2.2.2.2 x b c, hg x b c]
      have h1 := c3 x
      have h2 := (pof_nn (o := x) c1).1
      have h3 := (pof_nn (o := x) (l := (gr f s (xp σ p)).2.1) (fun y hy => by have := (c2 y hy).1; omega)).1
      have h4 := (pof_nn (o := x) hnn).2
      omega
    · rw [xp_sf, a2.2.2.1, nf_map (f := g) (gr_fst (f := f) (l := xp σ p) (w := s))]
      have := nf_two (l := xp σ p) hfg
      omega
  refine vm_X9_takeOut _ _ _ _ _ ⟨fun h1 => ?_, fun h1 => ⟨fun h2 => ?_, fun h2 => ⟨fun h3 => ?_, fun h3 => ⟨fun h4 => ?_, fun h4 => ?_⟩⟩⟩⟩
  · refine cV (sp_takeFromLast hT ⟨by omega, by omega⟩ hg0 (by omega)) ?_
    intro σ1 k1
    refine fin ?_
    rw [takeW, if_pos h1]
    exact xtk_back k1
  · have hpn : 0 < sm (fun o => pof o (xp σ p)) 10 := by
      rw [pof_sm (fun q hq => ⟨(hok q hq).1, (hok q hq).2.1⟩)]; omega
    have hq0 := pq_tot (s := s) (w := fun o => pof o (xp σ p)) (n := 10) (by omega) hpn (fun i a b => (pof_nn hnn).1)
    refine cI (sp_measure hT (by omega)) ?_
    rintro r σ1 ⟨k1, k2, k3⟩
    refine cV (sp_portion_a σ1 s (by omega) (by omega) (fun i a b => ?_) (fun i a b => ?_)) ?_
    · rw [k3 i a (by omega)]; exact (pof_nn hnn).1
    · rw [k3 i a (by omega)]; have := (pof_nn (o := i) hnn).2; omega
    · rintro σ2 ⟨f, rfl, hf⟩
      have e1 : ∀ c : Nat, c ≠ 51 → c ≠ 52 → zc σ1 52 f c = σ c := fun c hc hd => by rw [zc_ne hd]; exact k2.cell c ⟨by simpa using hc, by simp⟩
      have exl : ∀ p' : Int, xp (zc σ1 52 f) p' = xp σ p' := fun p' => by unfold xp xl; rw [e1 41 (by decide) (by decide), e1 42 (by decide) (by decide), e1 43 (by decide) (by decide), e1 44 (by decide) (by decide)]
      have hw2 : XW (zc σ1 52 f) := by unfold XW; rw [e1 41 (by decide) (by decide), e1 42 (by decide) (by decide), e1 43 (by decide) (by decide), e1 44 (by decide) (by decide), e1 45 (by decide) (by decide)]; exact hw
      have hx2 : xt (zc σ1 52 f) = xt σ := by unfold xt; rw [e1 41 (by decide) (by decide), e1 48 (by decide) (by decide), e1 49 (by decide) (by decide)]
      have hT2 : XT (zc σ1 52 f) := by unfold XT; rw [e1 41 (by decide) (by decide), e1 42 (by decide) (by decide), e1 43 (by decide) (by decide), e1 44 (by decide) (by decide)]; exact hT
      have hsm : sm (σ1 51) 10 = sm (fun o => pof o (xp σ p)) 10 := sm_congr (fun i a b => k3 i a (by omega))
      have hfq : ∀ o : Int, 0 ≤ o → o < 10 → zc σ1 52 f 52 o = pq s (fun o => pof o (xp σ p)) 10 o := fun o a b => by
        rw [zc_eq, hf o a (by omega), if_neg (by omega)]
        exact pq_congr (fun j x y => k3 j x (by omega)) a (by omega)
      refine lp_takeOut (σ0 := zc σ1 52 f) (q := pq s (fun o => pof o (xp σ p)) 10) hp hw2 ⟨by omega, by omega⟩ (s := s) ?_ (fun p' a b => by rw [exl]; exact hcl p' a b) (by rw [e1 41 (by decide) (by decide)]; exact h9) (by rw [hx2]; exact ht) (fun o a b => by rw [e1 50 (by decide) (by decide)]; exact hg o a b) hfq (fun o a b => ⟨hq0.2 o a b, ?_⟩) ?_ 10 0 _ ?_ ?_ rfl
      · rw [exl]; exact hps
      · have := sm_one (f := pq s (fun o => pof o (xp σ p)) 10) (n := 10) (i := o) hq0.2 a b
        omega
      · rintro σ' ⟨x1, x2, x3, x4, x5, x6⟩
        rw [exl] at x3 x4 x5 x6
        have e : takeW way s h (xp σ p) = gq (pq s (fun o => pof o (xp σ p)) 10) (xp σ p) 10 := by rw [takeW, if_neg h1, if_pos h2]
        rw [e]
        refine ⟨x1, ((k2.mo (by decide) (by decide)).tr (Fr.cl Fr.rf (by decide))).tr x2, fun p' a b => ?_, x4, x5, x6⟩
        rw [x3 p' a b, exl]
      · exact xtk_0 hT2
      · rw [e1 41 (by decide) (by decide), h9]; exact nf_nn
  · refine cI (sp_takeOf hT ⟨by omega, by omega⟩ hg0 (by rw [xp_sf]; have := nf_le (f := fun x => decide (x = h)) (l := xp σ p); omega)) ?_
    intro r1 σ1 k1
    obtain ⟨q1, q2, q3, q4⟩ := pre2 (g := fun x => !decide (x = h)) (fun x => rfl) k1
    refine cI (sp_takeOthers q1 q2 q3 q4) ?_
    intro r2 σ2 k2
    refine fin ?_
    rw [takeW, if_neg h1, if_neg h2, if_pos h3]
    exact two (fun x => rfl) k1 k2
  · refine cI (sp_takeOthers hT ⟨by omega, by omega⟩ hg0 (by rw [xp_sf]; have := nf_le (f := fun x => !decide (x = h)) (l := xp σ p); omega)) ?_
    intro r1 σ1 k1
    obtain ⟨q1, q2, q3, q4⟩ := pre2 (g := fun x => decide (x = h)) (fun x => by simp) k1
    refine cI (sp_takeOf q1 q2 q3 q4) ?_
    intro r2 σ2 k2
    refine fin ?_
    rw [takeW, if_neg h1, if_neg h2, if_neg h3, if_pos h4]
    exact two (f := fun x => !decide (x = h)) (g := fun x => decide (x = h)) (fun x => by simp) k1 k2
  · refine cI (sp_takeOthers hT ⟨by omega, by omega⟩ hg0 (by rw [xp_sf]; have := nf_le (f := fun x => !decide (x = -1)) (l := xp σ p); omega)) ?_
    intro r1 σ1 k1
    refine fin ?_
    rw [takeW, if_neg h1, if_neg h2, if_neg h3, if_neg h4]
    exact (xtk_pass k1).2.1
