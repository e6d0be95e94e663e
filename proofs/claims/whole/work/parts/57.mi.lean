/-! what holds of the money behind every line -/
theorem pj_len {n : Nat} : ∀ {l : List (Int × Int × Int)}, (∀ q ∈ l, 0 ≤ q.1 ∧ q.1 < n) → sm (fun p => ((pj p l).length : Int)) n = l.length
  | [], _ => sm_zero (fun _ _ _ => rfl)
  | q :: r, h => by
    have ih := pj_len (l := r) (fun x hx => h x (List.mem_cons_of_mem _ hx))
    have hq := h q List.mem_cons_self
    have e : sm (fun p => ((pj p (q :: r)).length : Int)) n = sm (fu (fun p => ((pj p r).length : Int)) q.1 ((pj q.1 r).length + 1)) n := by
      refine sm_congr fun p a b => ?_
      rw [fu_app, pj_cons]
      by_cases e : p = q.1
      · rw [if_pos e, if_pos e.symm, e, List.length_cons]; omega
      · rw [if_neg e, if_neg (fun z => e z.symm)]
    rw [e, sm_fu hq.1 hq.2, ih, List.length_cons]
    omega
theorem xl_len {σ : AS} (h : XW σ) : σ 41 3 = sm (fun p => ((xp σ p).length : Int)) 10 := by
  have h1 := pj_len (n := 10) (l := xl σ) (fun q hq => (xl_mem h q hq).1)
  have h2 : ((xl σ).length : Int) = σ 41 3 := by
    have := h.1
    unfold xl
    rw [rl_len]
    omega
  rw [← h2, ← h1]
  rfl
theorem RX_len {m : MS} {σ : AS} (h : RX m σ) : σ 41 3 = mst m := by
  rw [xl_len h.1]
  exact sm_congr (fun p a b => by rw [h.2.1 p a (by omega)])
theorem mst_fuP {P : Int → MP} {S L : Int → Int} {p : Int} {l : MP} (hp : 0 ≤ p ∧ p < 10) : mst (fuP P p l, S, L) = mst (P, S, L) - (P p).length + l.length := by
  unfold mst
  have : sm (fun p' => (((fuP P p l) p').length : Int)) 10 = sm (fu (fun p' => ((P p').length : Int)) p l.length) 10 := sm_congr (fun i a b => by
    unfold fuP fu
    split <;> rfl)
  show sm (fun p' => (((fuP P p l) p').length : Int)) 10 = _
  rw [this, sm_fu (n := 10) hp.1 (by omega)]
theorem mst_SL {P : Int → MP} {S L S' L' : Int → Int} : mst (P, S, L) = mst (P, S', L') := rfl
theorem MI_mo {k : Int} {m : MS} (h : MI k m) (hk : k < 100) : MI (k + 1) m := by
  obtain ⟨h1, h2, h3, h4⟩ := h
  refine ⟨by omega, fun p a b => ?_, by omega, fun c a b => ?_⟩
  · have := h2 p a b
    exact ⟨this.1, this.2.1, by omega⟩
  · have := h4 c a b
    omega
theorem mvT_sum {C : AS} {t i e : Int} : ∀ {l : MP}, psum (mvT C t i e l) = psum l
  | [] => rfl
  | q :: r => by
    show q.2 + psum (mvT C t i e r) = q.2 + psum r
    rw [mvT_sum]
theorem tw_ok {C : AS} {F : FD} {t k i : Int} {fo : Int → Int} {m : MS} (hm : MI k m) (hl : lv C i) (hss : ¬ psum (m.1 (C 9 i)) < C 11 i) : tkOK (C 11 i) 10 (m.1 (C 9 i)) (twF C F t fo i m) :=
  tk_takeW (hm.2.1 _ hl.2.2.1.1 hl.2.2.1.2).1 (by have := hl.2.2.2.1; omega) (by omega)
theorem addR_bd {f g : Int → Int} {b k s : Int} (hf : ∀ c : Int, 0 ≤ c → c < 100 → 0 ≤ f c ∧ f c ≤ 1000000 * k) (hg : ∀ x : Int, 0 ≤ x → x < 10 → 0 ≤ g x ∧ g x ≤ 1000000) : ∀ c : Int, 0 ≤ c → c < 100 → 0 ≤ addR f b g c ∧ addR f b g c ≤ 1000000 * (k + 1) := by
  intro c h0 h1
  have h2 := hf c h0 h1
  unfold addR
  split
  · have := hg (c - b) (by omega) (by omega)
    omega
  · omega
set_option maxHeartbeats 1000000 in
theorem mact_MI {C : AS} {F : FD} {t k i : Int} {fo : Int → Int} {m : MS} (hm : MI k m) (hk : k < 100) (hl : lv C i) : MI (k + 1) (mact C F t fo i m) := by
  have hm1 := MI_mo hm hk
  obtain ⟨h1, h2, h3, h4⟩ := hm
  obtain ⟨l1, l2, l3, l4, l5, l6, l7⟩ := hl
  have hP := h2 _ l3.1 l3.2
  have hpn := psum_nn (pok_nn hP.1)
  have hh := l7 _ l3.1 l3.2
  have hw10 : ∀ x : Int, 0 ≤ x → x < 10 → 0 ≤ 1000000 * k := fun _ _ _ => by omega
  unfold mact
  by_cases htk : tkD (C 8 i) = true
  · rw [if_pos htk]
    by_cases hs : psum (m.1 (C 9 i)) < C 11 i
    · rw [if_pos hs]; exact hm1
    · rw [if_neg hs]
      obtain ⟨t1, t2, t3, t4, t5, t6, t7⟩ := tw_ok (F := F) (t := t) (fo := fo) ⟨h1, h2, h3, h4⟩ ⟨l1, l2, l3, l4, l5, l6, l7⟩ hs
      obtain ⟨r, hr⟩ : ∃ r, r = twF C F t fo i m := ⟨_, rfl⟩
      rw [← hr] at t1 t2 t3 t4 t5 t6 t7 ⊢
      have rn : ∀ q ∈ r.2, 0 ≤ q.2 := fun q hq => by have := (t2 q hq).1; omega
      have rp : ∀ q ∈ r.2, 0 ≤ q.1 ∧ q.1 < 10 := fun q hq => by
        obtain ⟨x, hx, e⟩ := List.mem_map.mp (t2 q hq).2
        rw [← e]
        exact ⟨(hP.1 x hx).1, (hP.1 x hx).2.1⟩
      have rp1 : ∀ q ∈ r.1, 0 ≤ q.1 ∧ q.1 < 10 := fun q hq => by
        have : q.1 ∈ (m.1 (C 9 i)).map Prod.fst := by rw [← t6]; exact List.mem_map.mpr ⟨q, hq, rfl⟩
        obtain ⟨x, hx, e⟩ := List.mem_map.mp this
        rw [← e]
        exact ⟨(hP.1 x hx).1, (hP.1 x hx).2.1⟩
      have n1 := psum_nn rn
      have n2 := psum_nn t1
      have a1 : psum (layAll [] r.1) = psum r.1 := by rw [layAll_psum t1]; exact Int.zero_add _
      have a2 := layAll_nz (r := r.1) (l := [])
      rw [List.length_nil, Nat.zero_add] at a2
      have a3 := nz_pok hP.1
      have newP : pok (layAll [] r.1) ∧ clean (layAll [] r.1) ∧ psum (layAll [] r.1) ≤ 1000000 * (k + 1) := ⟨layAll_pok pok_nil rp1, clean_layAll clean_nil, by omega⟩
      have oneP : ∀ p : Int, 0 ≤ p → p < 10 → pok (fuP m.1 (C 9 i) (layAll [] r.1) p) ∧ clean (fuP m.1 (C 9 i) (layAll [] r.1) p) ∧ psum (fuP m.1 (C 9 i) (layAll [] r.1) p) ≤ 1000000 * (k + 1) := fun p a b => by
        unfold fuP
        split
        · exact newP
        · exact hm1.2.1 p a b
      have oneL : ∀ S L : Int → Int, mst (fuP m.1 (C 9 i) (layAll [] r.1), S, L) + r.2.length ≤ 10 * (k + 1) := fun S L => by
        rw [mst_fuP l3, mst_SL (S' := m.2.1) (L' := m.2.2)]
        have : mst (m.1, m.2.1, m.2.2) = mst m := rfl
        omega
      have pb : ∀ x : Int, 0 ≤ pof x r.2 ∧ pof x r.2 ≤ 1000000 := fun x => by have := pof_nn (o := x) rn; omega
      by_cases k1 : C 8 i = 1
      · rw [if_pos k1]
        have lq := l5 (by omega)
        have lhq := l7 _ lq.1 lq.2
        have hne : C 10 i ≠ C 9 i := l6 k1
        obtain ⟨tk, htkd⟩ : ∃ tk, tk = mvT C t i (endF C F t i (m.1 (C 9 i))) r.2 := ⟨_, rfl⟩
        rw [← htkd]
        have s1 : psum tk = psum r.2 := by rw [htkd, mvT_sum]
        have s2 : tk.length = r.2.length := by rw [htkd]; unfold mvT; rw [List.length_map]
        have s3 : ∀ q ∈ tk, 0 ≤ q.2 ∧ 0 ≤ q.1 ∧ q.1 < 10 := by
          intro q hq
          rw [htkd] at hq
          unfold mvT at hq
          obtain ⟨x, hx, rfl⟩ := List.mem_map.mp hq
          refine ⟨rn x hx, ?_⟩
          dsimp only
          split
          · exact lhq
          · exact rp x hx
        have s4 : psum (layAll (m.1 (C 10 i)) tk) = psum (m.1 (C 10 i)) + psum tk := layAll_psum (fun q hq => (s3 q hq).1)
        have s5 := layAll_len (r := tk) (l := m.1 (C 10 i))
        have hq0 := h2 _ lq.1 lq.2
        refine ⟨by omega, fun p a b => ?_, ?_, hm1.2.2.2⟩
        · show pok (fuP _ _ _ p) ∧ clean (fuP _ _ _ p) ∧ psum (fuP _ _ _ p) ≤ _
          by_cases e : p = C 10 i
          · rw [e, fuP_eq]
            exact ⟨layAll_pok hq0.1 (fun q hq => (s3 q hq).2), clean_layAll hq0.2.1, by omega⟩
          · rw [fuP_ne e]; exact oneP p a b
        · rw [mst_fuP lq, fuP_ne hne]
          have := oneL m.2.1 m.2.2
          omega
      · rw [if_neg k1]
        by_cases k2 : C 8 i = 2
        · rw [if_pos k2]
          refine ⟨by omega, oneP, by have := oneL m.2.1 (addR m.2.2 (10 * C 9 i) (fun x => if x = C 5 (C 9 i) then 0 else pof x r.2)); omega, fun c a b => ⟨(hm1.2.2.2 c a b).1, ?_⟩⟩
          refine addR_bd (s := 0) (b := 10 * C 9 i) (g := fun x => if x = C 5 (C 9 i) then 0 else pof x r.2) (fun c a b => (h4 c a b).2) (fun x _ _ => ?_) c a b
          split
          · omega
          · exact pb x
        · rw [if_neg k2]
          refine ⟨by omega, oneP, by have := oneL (addR m.2.1 (10 * C 10 i) (fun x => pof x r.2)) m.2.2; omega, fun c a b => ⟨?_, (hm1.2.2.2 c a b).2⟩⟩
          exact addR_bd (s := 0) (fun c a b => (h4 c a b).1) (fun x _ _ => pb x) c a b
  · rw [if_neg htk]
    have hkn : C 8 i ≠ 2 := fun q => htk (tkD_iff.mpr (Or.inr (Or.inl q)))
    have lq := l5 hkn
    have put1 : ∀ (l : MP) (S L : Int → Int), pok l → clean l → psum l ≤ 1000000 * (k + 1) → l.length ≤ (m.1 (C 9 i)).length + 10 → (∀ c : Int, 0 ≤ c → c < 100 → (0 ≤ S c ∧ S c ≤ 1000000 * (k + 1)) ∧ (0 ≤ L c ∧ L c ≤ 1000000 * (k + 1))) → MI (k + 1) (fuP m.1 (C 9 i) l, S, L) := by
      intro l S L b1 b2 b3 b4 b5
      refine ⟨by omega, fun p a b => ?_, ?_, b5⟩
      · show pok (fuP _ _ _ p) ∧ clean (fuP _ _ _ p) ∧ psum (fuP _ _ _ p) ≤ _
        by_cases e : p = C 9 i
        · rw [e, fuP_eq]; exact ⟨b1, b2, b3⟩
        · rw [fuP_ne e]; exact hm1.2.1 p a b
      · rw [mst_fuP l3, mst_SL (S' := m.2.1) (L' := m.2.2)]
        have : mst (m.1, m.2.1, m.2.2) = mst m := rfl
        omega
    by_cases k0 : C 8 i = 0
    · rw [if_pos k0]
      have := lay_len (m.1 (C 9 i)) (C 10 i) (C 11 i)
      exact put1 _ _ _ (lay_pok hP.1 lq) (clean_lay hP.2.1) (by rw [lay_psum (by omega)]; omega) (by omega) hm1.2.2.2
    · rw [if_neg k0]
      by_cases k4 : C 8 i = 4
      · rw [if_pos k4]
        obtain ⟨g, hgd⟩ : ∃ g, g = gnF C F t i m := ⟨_, rfl⟩
        have hg := gai_bd (ri := risF C F t i (m.1 (C 9 i))) (s := C 11 i) (h := C 5 (C 9 i)) (w := shF C i m) (by omega) hh (fun x a b => by have := (h4 (10 * C 10 i + x) (by omega) (by omega)).1; exact this.1)
        have hg' : sm g 10 ≤ C 11 i ∧ ∀ x : Int, 0 ≤ x → x < (10 : Nat) → 0 ≤ g x := by rw [hgd]; exact hg
        rw [← hgd]
        have gs : ∀ n : Nat, psum (rl (n : Int) (fun x => (x, g x))) = sm g n := by
          intro n
          induction n with
          | zero => rfl
          | succ n ih =>
            rw [show ((n + 1 : Nat) : Int) = n + 1 by omega, rl_succ _ (by omega), psum_app, ih, sm]
            show _ + (g n + 0) = _
            omega
        have g10 : psum (rl 10 (fun x => (x, g x))) = sm g 10 := gs 10
        have gm : ∀ q ∈ rl 10 (fun x => (x, g x)), 0 ≤ q.2 ∧ 0 ≤ q.1 ∧ q.1 < 10 := by
          intro q hq
          obtain ⟨j, c0, c1, c2⟩ := rl_mem.mp hq
          rw [← c2]
          exact ⟨hg'.2 j c0 (by omega), c0, c1⟩
        have gl := layAll_len (r := rl 10 (fun x => (x, g x))) (l := m.1 (C 9 i))
        rw [rl_len] at gl
        refine put1 _ _ _ (layAll_pok hP.1 (fun q hq => (gm q hq).2)) (clean_layAll hP.2.1) (by rw [layAll_psum (fun q hq => (gm q hq).1)]; omega) (by omega) (fun c a b => ⟨?_, (hm1.2.2.2 c a b).2⟩)
        split
        · omega
        · exact (hm1.2.2.2 c a b).1
      · rw [if_neg k4]
        have hL := (h4 (10 * C 9 i + C 10 i) (by omega) (by omega)).2
        have hb : 0 ≤ bkF C i m ∧ bkF C i m ≤ C 11 i ∧ bkF C i m ≤ m.2.2 (10 * C 9 i + C 10 i) := by unfold bkF; omega
        have e1 := lay_len (m.1 (C 9 i)) (C 10 i) (bkF C i m)
        have e2 := lay_len (lay (m.1 (C 9 i)) (C 10 i) (bkF C i m)) (C 5 (C 9 i)) (C 11 i - bkF C i m)
        refine put1 _ _ _ (lay_pok (lay_pok hP.1 lq) hh) (clean_lay (clean_lay hP.2.1)) (by rw [lay_psum (by omega), lay_psum (by omega)]; omega) (by omega) (fun c a b => ⟨(hm1.2.2.2 c a b).1, ?_⟩)
        have := (hm1.2.2.2 c a b).2
        unfold fu
        split
        · rename_i e; rw [e] at this; omega
        · exact this
