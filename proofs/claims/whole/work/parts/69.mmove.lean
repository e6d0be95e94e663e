/-! the model's money, and pieces of a line -/
/-- both books are the same -/
def BK (C : AS) : Prop := (C 84 = C 5 ∧ C 85 = C 6 ∧ C 86 = C 8 ∧ C 87 = C 9 ∧ C 88 = C 10 ∧ C 89 = C 11 ∧ C 90 = C 13 ∧ C 91 = C 14 ∧ C 92 = C 15 ∧ C 93 = C 16 ∧ C 94 = C 17 ∧ C 95 = C 12) ∧ (C 109 = C 20 ∧ C 110 = C 21 ∧ C 111 = C 22 ∧ C 112 = C 23) ∧
  (C 82 1 = C 2 1 ∧ C 82 2 = C 1 10 ∧ C 82 3 = C 1 11 ∧ C 82 4 = C 4 2 ∧ C 82 5 = C 1 12 ∧ C 82 6 = C 7 11 ∧ C 82 7 = C 24 14 ∧ C 82 8 = C 19 4 ∧ C 82 9 = C 76 3 ∧ C 82 10 = C 70 6)
def RM (m : MS) (σ : AS) : Prop := (∀ p : Int, 0 ≤ p → p < 10 → mp σ p = m.1 p ∧ 0 ≤ σ 113 p) ∧ (∀ c : Int, 0 ≤ c → c < 100 → σ 116 c = m.2.1 c) ∧ (∀ c : Int, 0 ≤ c → c < 100 → σ 117 c = m.2.2 c)
/-- only persons that there are have something -/
def MN (n : Nat) (m : MS) : Prop := (∀ p : Int, 0 ≤ p → p < 10 → ∀ q ∈ m.1 p, q.1 < n) ∧ ∀ k o : Int, 0 ≤ k → k < 10 → n ≤ o → o < 10 → m.2.1 (10 * k + o) = 0
theorem RM_len {m : MS} {k : Int} {σ : AS} (h : RM m σ) (hm : MI k m) : ∀ p : Int, 0 ≤ p → p < 10 → 0 ≤ σ 113 p ∧ σ 113 p ≤ 10 * k := by
  intro p a b
  obtain ⟨h1, h2⟩ := h.1 p a b
  refine ⟨h2, ?_⟩
  rw [← mp_len h2, h1]
  have := sm_one (f := fun p => ((m.1 p).length : Int)) (n := 10) (fun i _ _ => by omega) a (by omega)
  have h3 := hm.2.2.1
  unfold mst at h3
  omega
theorem RM_T {m : MS} {k : Int} {σ : AS} (h : RM m σ) (hm : MI k m) : MT σ := by
  intro p a b
  have h1 := RM_len h hm p a b
  have h2 := hm.2.1 p a b
  have h3 := hm.1
  rw [(h.1 p a b).1]
  exact ⟨by omega, fun q hq => ⟨⟨(h2.1 q hq).1, (h2.1 q hq).2.1⟩, by have := (h2.1 q hq).2.2; omega⟩, by omega⟩
theorem RM_fr {m : MS} {σ σ' : AS} {cs : List Nat} {fs : List (Nat × Int)} (h : RM m σ) (hf : Fr cs fs σ σ') (hc : ∀ c ∈ [113, 114, 115, 116, 117], c ∉ cs ∧ c ∉ fs.map Prod.fst) : RM m σ' := by
  have e : ∀ c ∈ [113, 114, 115, 116, 117], σ' c = σ c := fun c hcc => hf.cell c (hc c hcc)
  have e3 := e 113 (by decide)
  refine ⟨fun p a b => ?_, fun c a b => ?_, fun c a b => ?_⟩
  · rw [mp_eq e3 (e 114 (by decide)) (e 115 (by decide)), e3]; exact h.1 p a b
  · rw [e 116 (by decide)]; exact h.2.1 c a b
  · rw [e 117 (by decide)]; exact h.2.2 c a b
theorem lp_mknew {Ln : Int} {d : Nat} {a b dy t : Int} {C σ : AS} (hB : BK C) (hf : Fr wkX wkF C σ) (hz : C 19 4 ≤ 100) : ∀ (m : Nat) (i : Int), 0 ≤ i → (C 19 4 - i).toNat = m →
    am_E Ln d 177 3 [vR 82, vI a, vI b, vI dy, vI t, vI i] [] σ (am_rI fun r σ' => r = (if knS C a b dy t i = true then 1 else 0) ∧ σ' = σ) := by
  obtain ⟨-, ⟨b1, b2, b3, b4⟩, -, -, -, -, -, -, -, b5, -⟩ := hB
  have e1 : σ 109 = C 20 := by rw [hf.cell 109 (by decide), b1]
  have e2 : σ 110 = C 21 := by rw [hf.cell 110 (by decide), b2]
  have e3 : σ 111 = C 22 := by rw [hf.cell 111 (by decide), b3]
  have e4 : σ 112 = C 23 := by rw [hf.cell 112 (by decide), b4]
  have e5 : σ 82 8 = C 19 4 := by rw [hf.fld 82 8 (by decide), b5]
  intro m
  induction m with
  | zero =>
    intro i h0 hm
    refine vl_X12_knew_3 _ _ _ _ _ _ ⟨fun hx => ⟨am_b0, ?_, rfl⟩, fun h => absurd (by omega) h⟩
    unfold knS
    rw [rl_neg _ (by omega)]
    rfl
  | succ m ih =>
    intro i h0 hm
    have hlt : i < C 19 4 := by omega
    have key : knS C a b dy t i = (decide (C 20 i = a ∧ C 21 i = b ∧ C 22 i ≤ dy ∧ C 23 i ≤ t) || knS C a b dy t (i + 1)) := by
      unfold knS
      rw [rl_cons _ (by omega), List.any_cons, Int.add_zero]
      congr 1
      rw [show C 19 4 - i - 1 = C 19 4 - (i + 1) by omega]
      congr 1
      exact rl_congr fun j _ _ => by rw [show i + (j + 1) = i + 1 + j by omega]
    have nx : (¬ (C 20 i = a ∧ C 21 i = b ∧ C 22 i ≤ dy ∧ C 23 i ≤ t)) → am_E Ln d 177 3 [vR 82, vI a, vI b, vI dy, vI t, vI (w32 (i + 1))] [] σ (am_rI fun r σ' => r = (if knS C a b dy t i = true then 1 else 0) ∧ σ' = σ) := by
      intro hn
      rw [w32_id (by omega) (by omega), key, decide_eq_false hn, Bool.false_or]
      exact ih (i + 1) (by omega) (by omega)
    refine vl_X12_knew_3 _ _ _ _ _ _ ⟨fun h => absurd h (by omega), fun _ => ⟨⟨h0, by omega⟩, ?_⟩⟩
    rw [e1, e2, e3, e4]
    refine ⟨fun h1 => ⟨⟨h0, by omega⟩, fun h2 => ⟨⟨h0, by omega⟩, fun h3 => nx (by omega), fun h3 => ⟨⟨h0, by omega⟩, fun h4 => nx (by omega), fun h4 => ⟨am_b1, ?_, rfl⟩⟩⟩, fun h2 => nx (fun q => h2 q.2.1)⟩, fun h1 => nx (fun q => h1 q.1)⟩
    rw [key, decide_eq_true ⟨h1, h2, by omega, by omega⟩]
    rfl
theorem sp_mknew {Ln : Int} {d : Nat} {a b dy t : Int} {C σ : AS} (hB : BK C) (hf : Fr wkX wkF C σ) (hz : C 19 4 ≤ 100) : am_M Ln (d + 1) 177 [vR 82, vI a, vI b, vI dy, vI t] σ (am_rI fun r σ' => r = (if knS C a b dy t 0 = true then 1 else 0) ∧ σ' = σ) := vm_X12_knew _ _ _ _ _ (lp_mknew hB hf hz _ 0 (by omega) rfl)
theorem lay_lay {l : MP} {o a b : Int} (ha : 0 ≤ a) (hb : 0 ≤ b) : lay (lay l o a) o b = lay l o (a + b) := by
  by_cases hb0 : b ≤ 0
  · rw [lay, if_pos hb0, show a + b = a by omega]
  · by_cases ha0 : a ≤ 0
    · rw [show a = 0 by omega, Int.zero_add, lay.eq_1 l o 0, if_pos (by omega)]
    · rw [lay.eq_1 l o a, if_neg ha0, lay.eq_1 _ o b, if_neg hb0, lay.eq_1 l o (a + b), if_neg (by omega)]
      rcases List.eq_nil_or_concat l with e | ⟨x, q, e⟩
      · rw [e, layR_nil, layR_nil, show [((o : Int), a)] = [] ++ [(o, a)] from rfl, layR_app, if_pos rfl]; rfl
      · rw [e, List.concat_eq_append, layR_app, layR_app]
        by_cases h : q.1 = o
        · rw [if_pos h, if_pos h, layR_app, if_pos h, Int.add_assoc]
        · rw [if_neg h, if_neg h, show x ++ [q, (o, a)] = (x ++ [q]) ++ [(o, a)] by simp, layR_app, if_pos rfl]; simp
def pmap (h : Int → Int) (l : MP) : MP := l.map (fun x => (h x.1, x.2))
theorem pmap_app {h : Int → Int} {a b : MP} : pmap h (a ++ b) = pmap h a ++ pmap h b := List.map_append
theorem layAll_pmap1 {h : Int → Int} {l a : MP} {o s : Int} (ha : ∀ q ∈ a, 0 ≤ q.2) : layAll l (pmap h (lay a o s)) = lay (layAll l (pmap h a)) (h o) s := by
  unfold lay
  by_cases hs : s ≤ 0
  · rw [if_pos hs, if_pos hs]
  · rw [if_neg hs]
    rcases List.eq_nil_or_concat a with e | ⟨x, q, e⟩
    · rw [e, layR_nil]
      show lay l (h o) s = _
      rfl
    · rw [e, List.concat_eq_append] at ha ⊢
      have hq := ha q (List.mem_append.mpr (Or.inr List.mem_cons_self))
      rw [layR_app]
      by_cases hh : q.1 = o
      · rw [if_pos hh, pmap_app, pmap_app, layAll_app, layAll_app]
        show lay (layAll l (pmap h x)) (h q.1) (q.2 + s) = (if s ≤ 0 then lay (layAll l (pmap h x)) (h q.1) q.2 else layR (lay (layAll l (pmap h x)) (h q.1) q.2) (h o) s)
        rw [← hh, ← lay_lay hq (by omega : 0 ≤ s)]
        rfl
      · rw [if_neg hh, pmap_app, pmap_app, layAll_app, layAll_app]
        show lay (lay (layAll l (pmap h x)) (h q.1) q.2) (h o) s = _
        rfl
theorem layAll_pmap {h : Int → Int} {l : MP} : ∀ {r a : MP}, (∀ q ∈ a, 0 ≤ q.2) → layAll l (pmap h (layAll a r)) = layAll (layAll l (pmap h a)) (pmap h r)
  | [], _, _ => rfl
  | q :: r, a, ha => by
    rw [layAll_cons, layAll_pmap (lay_nn ha), layAll_pmap1 ha]
    rfl
theorem mvT_pmap {C : AS} {t i e : Int} {l : MP} : mvT C t i e l = pmap (fun x => if e ≠ 0 ∧ knS C (C 5 (C 10 i)) x (C 13 i) t 0 = false then C 5 (C 10 i) else x) l := rfl
theorem mvT_lay {C : AS} {t i e : Int} {l r : MP} : layAll l (mvT C t i e (layAll [] r)) = layAll l (mvT C t i e r) := by
  rw [mvT_pmap, mvT_pmap, layAll_pmap (fun q hq => by cases hq)]
  rfl
def mmove (σ0 : AS) (q : Int) (l : MP) (σ : AS) : Prop := Fr [113, 114, 115] [] σ0 σ ∧ (∀ p : Int, 0 ≤ p → p < 10 → mp σ p = if p = q then layAll (mp σ0 q) l else mp σ0 p) ∧ ∀ p : Int, 0 ≤ p → p < 10 → 0 ≤ σ 113 p
theorem lp_mmoves {Ln : Int} {d : Nat} {C σ0 : AS} {i t e n : Int} (hB : BK C) (hl : lv C i) (hk1 : C 8 i = 1) (hf : Fr wkX wkF C σ0) (hkn : C 19 4 ≤ 100) (hn : n = σ0 82 54) (hn0 : 0 ≤ n ∧ n ≤ 1390) (hr : ∀ p : Int, 0 ≤ p → p < 10 → 0 ≤ σ0 113 p ∧ σ0 113 p + n ≤ 1390) (hnn : ∀ q ∈ mp σ0 (C 10 i), 0 ≤ q.2)
    (hel : ∀ j : Int, 0 ≤ j → j < n → 0 ≤ σ0 119 j) (hps : psum (mp σ0 (C 10 i)) + psum (mt σ0) ≤ 1000000000) :
    ∀ (m : Nat) (j : Int) (σ : AS), 0 ≤ j → j ≤ n → (n - j).toNat = m → mmove σ0 (C 10 i) (rl j (fun j => mvE C t i e (σ0 118 j, σ0 119 j))) σ → (∀ p : Int, 0 ≤ p → p < 10 → σ 113 p ≤ σ0 113 p + j) →
    am_E Ln (d + 1) 196 11 [vR 82, vI i, vI e, vI t, vI (C 10 i), vI j, vU, vU] [] σ (am_rV (mmove σ0 (C 10 i) (mvT C t i e (mt σ0)))) := by
  obtain ⟨l1, l2, l3, l4, l5, l6, l7⟩ := hl
  have lq := l5 (by omega)
  have ps : ∀ j : Int, 0 ≤ j → j < n → psum (rl j (fun j => mvE C t i e (σ0 118 j, σ0 119 j))) + σ0 119 j ≤ psum (mt σ0) ∧ 0 ≤ psum (rl j (fun j => mvE C t i e (σ0 118 j, σ0 119 j))) := by
    intro j a b
    have e1 : psum (rl j (fun j => mvE C t i e (σ0 118 j, σ0 119 j))) = psum (rl j (fun j => (σ0 118 j, σ0 119 j))) := by rw [← mvT_rl, mvT_sum]
    have hh : ∀ {k : Int} {f : Int → Int}, (∀ u : Int, 0 ≤ u → u < k → 0 ≤ f u ∧ f u < n) → ∀ q ∈ rl k (fun u => (σ0 118 (f u), σ0 119 (f u))), 0 ≤ q.2 := by
      intro k f hfu q hq
      obtain ⟨u, c0, c1, c2⟩ := rl_mem.mp hq
      rw [← c2]
      exact hel _ (hfu u c0 c1).1 (hfu u c0 c1).2
    have h1 := psum_nn (hh (k := j) (f := fun u => u) (fun u x y => ⟨x, by omega⟩))
    have h2 := psum_nn (hh (k := n - j - 1) (f := fun u => j + 1 + u) (fun u x y => ⟨by omega, by omega⟩))
    rw [e1]
    unfold mt
    rw [← hn, rl_at _ a b, psum_app, psum_c]
    omega
  intro m
  induction m with
  | zero =>
    intro j σ h0 h1 hm hx hs
    obtain ⟨x1, x2, x3⟩ := hx
    have e9 : σ 82 54 = σ0 82 54 := x1.fld 82 54 (by decide)
    refine vl_X12_moves_11 _ _ _ _ _ _ ⟨fun _ => ?_, fun h => absurd (by omega) h⟩
    rw [show mt σ0 = rl j (fun j => (σ0 118 j, σ0 119 j)) by rw [show j = σ0 82 54 by omega]; rfl, mvT_rl]
    exact ⟨x1, x2, x3⟩
  | succ m ih =>
    intro j σ h0 h1 hm hx hs
    obtain ⟨x1, x2, x3⟩ := hx
    have fC : Fr wkX wkF C σ := hf.tr (x1.mo (by decide) (by decide))
    have e9 : σ 82 54 = σ0 82 54 := x1.fld 82 54 (by decide)
    have e118 : σ 118 = σ0 118 := x1.cell 118 (by decide)
    have e119 : σ 119 = σ0 119 := x1.cell 119 (by decide)
    have e84 : σ 84 = C 5 := by rw [fC.cell 84 (by decide), hB.1.1]
    have e90 : σ 90 = C 13 := by rw [fC.cell 90 (by decide)]; exact hB.1.2.2.2.2.2.2.1
    have hlt : j < n := by omega
    have hj := hel j h0 hlt
    have hp := ps j h0 hlt
    have hnl : ∀ x ∈ rl j (fun j => mvE C t i e (σ0 118 j, σ0 119 j)), 0 ≤ x.2 := by
      intro x hx
      obtain ⟨k, c0, c1, c2⟩ := rl_mem.mp hx
      rw [← c2]
      exact hel k c0 (by omega)
    have exq : mp σ (C 10 i) = layAll (mp σ0 (C 10 i)) (rl j (fun j => mvE C t i e (σ0 118 j, σ0 119 j))) := by rw [x2 _ lq.1 lq.2, if_pos rfl]
    have exs : psum (mp σ (C 10 i)) = psum (mp σ0 (C 10 i)) + psum (rl j (fun j => mvE C t i e (σ0 118 j, σ0 119 j))) := by rw [exq, layAll_psum hnl]
    have step : ∀ o : Int, o = (mvE C t i e (σ0 118 j, σ0 119 j)).1 → (∃ T : Option AV → AS → Prop, am_M Ln (d + 1) 179 [vR 82, vI (C 10 i), vI o, vI (σ0 119 j)] σ T ∧ ∀ s1, T none s1 →
        am_E Ln (d + 1) 196 11 [vR 82, vI i, vI e, vI t, vI (C 10 i), vI (w32 (j + 1)), vU, vU] [] s1 (am_rV (mmove σ0 (C 10 i) (mvT C t i e (mt σ0))))) := by
      intro o ho
      refine cV (sp_lays lq (fun p a b => by have := hs p a b; have := hr p a b; have := x3 p a b; omega) ⟨hj, by have := psum_nn hnn; omega⟩ (by rw [exq]; exact layAll_nn hnn) (by rw [exs]; omega)) ?_
      rintro s1 ⟨y1, y2, y3, y4⟩
      rw [w32_id (by omega) (by omega)]
      refine ih (j + 1) s1 (by omega) (by omega) (by omega) ⟨x1.tr y1, fun p a b => ?_, fun p a b => (y3 p a b).1⟩ (fun p a b => ?_)
      · rw [y2 p a b, rl_succ _ h0, layAll_app]
        by_cases ee : p = C 10 i
        · rw [if_pos ee, if_pos ee, exq, ho]
          rfl
        · rw [if_neg ee, if_neg ee, x2 p a b, if_neg ee]
      · have h1 := (y3 p a b).2
        have h2 := hs p a b
        split at h1 <;> omega
    refine vl_X12_moves_11 _ _ _ _ _ _ ⟨fun h => absurd h (by omega), fun _ => ⟨⟨h0, by omega⟩, fun h2 => ⟨fun _ => ⟨⟨h0, by omega⟩, ?_⟩, fun q => absurd rfl q⟩, fun h2 => ⟨lq, l1, ?_⟩⟩⟩
    · rw [e118, e119]
      refine step _ ?_
      rw [mvE, if_neg (fun q => q.1 h2)]
    · rw [e84, e118, e90]
      refine cI (sp_mknew hB fC hkn) ?_
      rintro r s3 ⟨r1, rfl⟩
      rw [e119, e84]
      refine ⟨fun hr0 => ⟨fun q => absurd q (by decide), fun _ => ⟨lq, ⟨h0, by omega⟩, ?_⟩⟩, fun hr0 => ⟨fun _ => ⟨⟨h0, by omega⟩, ?_⟩, fun q => absurd rfl q⟩⟩
      · refine step _ ?_
        have hb : knS C (C 5 (C 10 i)) (σ0 118 j) (C 13 i) t 0 = false := by
          by_cases hb : knS C (C 5 (C 10 i)) (σ0 118 j) (C 13 i) t 0 = true
          · rw [if_pos hb] at r1; omega
          · simpa using hb
        rw [mvE, if_pos ⟨h2, hb⟩]
      · refine step _ ?_
        rw [mvE, if_neg ?_]
        rintro ⟨-, q⟩
        dsimp only at q
        rw [q] at r1
        simp at r1
        exact hr0 r1
theorem sp_mmoves {Ln : Int} {d : Nat} {C σ : AS} {i t e : Int} (hB : BK C) (hl : lv C i) (hk1 : C 8 i = 1) (hf : Fr wkX wkF C σ) (hkn : C 19 4 ≤ 100) (hn0 : 0 ≤ σ 82 54 ∧ σ 82 54 ≤ 1390) (hr : ∀ p : Int, 0 ≤ p → p < 10 → 0 ≤ σ 113 p ∧ σ 113 p + σ 82 54 ≤ 1390) (hnn : ∀ q ∈ mp σ (C 10 i), 0 ≤ q.2)
    (hel : ∀ j : Int, 0 ≤ j → j < σ 82 54 → 0 ≤ σ 119 j) (hps : psum (mp σ (C 10 i)) + psum (mt σ) ≤ 1000000000) :
    am_M Ln (d + 2) 196 [vR 82, vI i, vI e, vI t] σ (am_rV (mmove σ (C 10 i) (mvT C t i e (mt σ)))) := by
  refine vm_X12_moves _ _ _ _ ⟨hl.1, ?_⟩
  rw [hf.cell 88 (by decide), hB.1.2.2.2.2.1]
  refine lp_mmoves hB hl hk1 hf hkn rfl hn0 hr hnn hel hps _ 0 σ (by omega) (by omega) rfl ⟨Fr.rf, fun p a b => ?_, fun p a b => (hr p a b).1⟩ (fun p a b => by omega)
  rw [rl_0, layAll_nil]
  split
  · rename_i ee; rw [ee]
  · rfl
