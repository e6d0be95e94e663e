/-! what a line does to the money, piece by piece -/
def mvE (C : AS) (t i e : Int) (x : Int × Int) : Int × Int := (if e ≠ 0 ∧ knS C (C 5 (C 10 i)) x.1 (C 13 i) t 0 = false then C 5 (C 10 i) else x.1, x.2)
theorem mvT_rl {C : AS} {t i e n : Int} {f : Int → Int × Int} : mvT C t i e (rl n f) = rl n (fun j => mvE C t i e (f j)) := rl_map
theorem knS_fr {C σ : AS} {a b dy t i : Int} (h : Fr wkX wkF C σ) : knS σ a b dy t i = knS C a b dy t i := by
  unfold knS
  rw [h.cell 20 (by decide), h.cell 21 (by decide), h.cell 22 (by decide), h.cell 23 (by decide), h.fld 19 4 (by decide)]
def xmove (σ0 : AS) (q : Int) (l : MP) (σ : AS) : Prop := XW σ ∧ Fr [42, 43, 44, 45] [(41, 3)] σ0 σ ∧ (∀ p : Int, 0 ≤ p → p < 10 → xp σ p = if p = q then layAll (xp σ0 q) l else xp σ0 p)
theorem lp_moveOn {Ln : Int} {d : Nat} {C σ0 : AS} {i t : Int} (hl : lv C i) (hk1 : C 8 i = 1) (hf : Fr wkX wkF C σ0) (hkn : C 19 4 ≤ 100) (ht : σ0 40 9 = t) (hn : 0 ≤ σ0 41 9 ∧ σ0 41 3 + σ0 41 9 ≤ 1010)
    (hz : 0 ≤ σ0 41 3) (hel : ∀ j : Int, 0 ≤ j → j < σ0 41 9 → (0 ≤ σ0 48 j ∧ σ0 48 j < 10) ∧ 0 < σ0 49 j) (hps : 0 ≤ psum (xp σ0 (C 10 i)) ∧ psum (xp σ0 (C 10 i)) + psum (xt σ0) ≤ 1000000000) :
    ∀ (m : Nat) (j : Int) (σ : AS), 0 ≤ j → j ≤ σ0 41 9 → (σ0 41 9 - j).toNat = m → xmove σ0 (C 10 i) (rl j (fun j => mvE C t i (σ0 40 12) (σ0 48 j, σ0 49 j))) σ → σ 41 3 ≤ σ0 41 3 + j →
    am_E Ln (d + 1) 40 23 [vR 40, vI i, vI (C 10 i), vI (C 5 (C 10 i)), vI j, vU, vU] [] σ (am_rV (xmove σ0 (C 10 i) (mvT C t i (σ0 40 12) (xt σ0)))) := by
  obtain ⟨l1, l2, l3, l4, l5, l6, l7⟩ := hl
  have lq := l5 (by omega)
  have lh := l7 _ lq.1 lq.2
  have psm : ∀ j : Int, 0 ≤ j → j ≤ σ0 41 9 → 0 ≤ psum (rl j (fun j => mvE C t i (σ0 40 12) (σ0 48 j, σ0 49 j))) ∧ psum (rl j (fun j => mvE C t i (σ0 40 12) (σ0 48 j, σ0 49 j))) + (if j < σ0 41 9 then σ0 49 j else 0) ≤ psum (xt σ0) := by
    have gen : ∀ (a : Int), 0 ≤ a → a ≤ σ0 41 9 → psum (rl a (fun j => mvE C t i (σ0 40 12) (σ0 48 j, σ0 49 j))) = psum (rl a (fun j => (σ0 48 j, σ0 49 j))) ∧ 0 ≤ psum (rl a (fun j => (σ0 48 j, σ0 49 j))) := by
      intro a h0 h1
      obtain ⟨n, rfl⟩ : ∃ n : Nat, a = n := ⟨a.toNat, by omega⟩
      induction n with
      | zero => exact ⟨rfl, Int.le_refl 0⟩
      | succ n ih =>
        have := ih (by omega) (by omega)
        have h3 := (hel n (by omega) (by omega)).2
        rw [show ((n + 1 : Nat) : Int) = n + 1 by omega, rl_succ _ (by omega), rl_succ _ (by omega), psum_app, psum_app, this.1]
        refine ⟨rfl, ?_⟩
        show 0 ≤ psum (rl n fun j => (σ0 48 j, σ0 49 j)) + (σ0 49 n + 0)
        omega
    intro j h0 h1
    rw [(gen j h0 h1).1]
    refine ⟨(gen j h0 h1).2, ?_⟩
    have hnn : ∀ x ∈ rl (σ0 41 9 - j) (fun k => (σ0 48 (j + k), σ0 49 (j + k))), 0 ≤ x.2 := by
      intro x hx
      obtain ⟨k, c0, c1, c2⟩ := rl_mem.mp hx
      rw [← c2]
      have := (hel (j + k) (by omega) (by omega)).2
      show 0 ≤ σ0 49 (j + k)
      omega
    unfold xt
    rw [rl_split _ h0 h1, psum_app]
    by_cases hlt : j < σ0 41 9
    · rw [if_pos hlt]
      have e := rl_cons (n := σ0 41 9 - j) (fun k => (σ0 48 (j + k), σ0 49 (j + k))) (by omega)
      rw [Int.add_zero] at e
      rw [e] at hnn ⊢
      have := psum_nn (fun x hx => hnn x (List.mem_cons_of_mem _ hx))
      rw [psum_c]
      omega
    · rw [if_neg hlt]
      have := psum_nn hnn
      omega
  intro m
  induction m with
  | zero =>
    intro j σ h0 h1 hm hx hs
    obtain ⟨x1, x2, x3⟩ := hx
    have e9 : σ 41 9 = σ0 41 9 := x2.fld 41 9 (by decide)
    refine vl_X6_moveOn_23 _ _ _ _ _ ⟨fun _ => ?_, fun h => absurd (by omega) h⟩
    rw [show xt σ0 = rl j (fun j => (σ0 48 j, σ0 49 j)) by rw [show j = σ0 41 9 by omega]; rfl, mvT_rl]
    exact ⟨x1, x2, x3⟩
  | succ m ih =>
    intro j σ h0 h1 hm hx hs
    obtain ⟨x1, x2, x3⟩ := hx
    have fC : Fr wkX wkF C σ := hf.tr (x2.mo (by decide) (by decide))
    have e9 : σ 41 9 = σ0 41 9 := x2.fld 41 9 (by decide)
    have e12 : σ 40 12 = σ0 40 12 := x2.fld 40 12 (by decide)
    have e409 : σ 40 9 = t := by rw [x2.fld 40 9 (by decide), ht]
    have e48 : σ 48 = σ0 48 := x2.cell 48 (by decide)
    have e49 : σ 49 = σ0 49 := x2.cell 49 (by decide)
    have e13 := fC.cell 13 (by decide)
    have hlt : j < σ0 41 9 := by omega
    have hj := hel j h0 hlt
    have hp := psm j h0 (by omega)
    rw [if_pos hlt] at hp
    have exq : psum (xp σ (C 10 i)) = psum (xp σ0 (C 10 i)) + psum (rl j (fun j => mvE C t i (σ0 40 12) (σ0 48 j, σ0 49 j))) := by
      rw [x3 _ lq.1 lq.2, if_pos rfl]
      refine layAll_psum fun x hx => ?_
      obtain ⟨k, c0, c1, c2⟩ := rl_mem.mp hx
      rw [← c2]
      have := (hel k c0 (by omega)).2
      show 0 ≤ σ0 49 k
      omega
    have step : ∀ o : Int, o = (mvE C t i (σ0 40 12) (σ0 48 j, σ0 49 j)).1 → (0 ≤ j ∧ j < 1010) ∧ (∃ T : Option AV → AS → Prop, am_M Ln (d + 1) 76 [vR 41, vI (C 10 i), vI o, vI (σ0 49 j)] σ T ∧ ∀ s1, T none s1 →
        am_E Ln (d + 1) 40 23 [vR 40, vI i, vI (C 10 i), vI (C 5 (C 10 i)), vI (w32 (j + 1)), vU, vU] [] s1 (am_rV (xmove σ0 (C 10 i) (mvT C t i (σ0 40 12) (xt σ0))))) := by
      intro o ho
      have ho2 : 0 ≤ o ∧ o < 10 := by
        rw [ho]
        unfold mvE
        dsimp only
        split
        · exact lh
        · exact hj.1
      refine ⟨⟨h0, by omega⟩, cV (sp_put x1 lq ho2 (by omega) (by rw [exq]; omega) (by omega)) ?_⟩
      rintro s1 ⟨y1, y2, y3, y4, y5⟩
      rw [w32_id (by omega) (by omega)]
      refine ih (j + 1) s1 (by omega) (by omega) (by omega) ⟨y1, x2.tr y2, fun p a b => ?_⟩ (by omega)
      rw [y3 p a b, rl_succ _ h0, layAll_app]
      by_cases e : p = C 10 i
      · rw [if_pos e, if_pos e, x3 _ lq.1 lq.2, if_pos rfl, ho]
        rfl
      · rw [if_neg e, if_neg e, x3 p a b, if_neg e]
    refine vl_X6_moveOn_23 _ _ _ _ _ ⟨fun h => absurd h (by omega), fun _ => ⟨⟨h0, by omega⟩, fun h2 => ⟨fun _ => ?_, fun q => absurd rfl q⟩, fun h2 => ⟨l1, ?_⟩⟩⟩
    · rw [e48, e49]
      refine step _ ?_
      rw [mvE, if_neg (fun q => q.1 (by rw [← e12]; exact h2))]
    · rw [e48, e13, e409]
      refine cI (sp_knew (by rw [fC.fld 19 4 (by decide)]; exact hkn)) ?_
      rintro r s3 ⟨r1, rfl⟩
      rw [knS_fr fC] at r1
      rw [e12] at h2
      rw [e49]
      refine ⟨fun hr => ⟨fun q => absurd q (by decide), fun _ => ?_⟩, fun hr => ⟨fun _ => ?_, fun q => absurd rfl q⟩⟩
      · refine step _ ?_
        have hb : knS C (C 5 (C 10 i)) (σ0 48 j) (C 13 i) t 0 = false := by
          by_cases hb : knS C (C 5 (C 10 i)) (σ0 48 j) (C 13 i) t 0 = true
          · rw [if_pos hb] at r1; omega
          · simpa using hb
        rw [mvE, if_pos ⟨h2, hb⟩]
      · refine step _ ?_
        rw [mvE, if_neg ?_]
        rintro ⟨-, q⟩
        dsimp only at q
        rw [q] at r1
        simp at r1
        exact hr r1
theorem sp_moveOn {Ln : Int} {d : Nat} {C σ : AS} {i t : Int} (hl : lv C i) (hk1 : C 8 i = 1) (hf : Fr wkX wkF C σ) (hkn : C 19 4 ≤ 100) (ht : σ 40 9 = t) (hn : 0 ≤ σ 41 9 ∧ σ 41 3 + σ 41 9 ≤ 1010) (hw : XW σ)
    (hel : ∀ j : Int, 0 ≤ j → j < σ 41 9 → (0 ≤ σ 48 j ∧ σ 48 j < 10) ∧ 0 < σ 49 j) (hps : 0 ≤ psum (xp σ (C 10 i)) ∧ psum (xp σ (C 10 i)) + psum (xt σ) ≤ 1000000000) :
    am_M Ln (d + 2) 40 [vR 40, vI i] σ (am_rV (xmove σ (C 10 i) (mvT C t i (σ 40 12) (xt σ)))) := by
  have lq := hl.2.2.2.2.1 (by omega)
  refine vm_X6_moveOn _ _ ⟨hl.1, ?_⟩
  rw [hf.cell 10 (by decide), hf.cell 5 (by decide)]
  refine ⟨lq, lp_moveOn hl hk1 hf hkn ht hn hw.1.1 hel hps _ 0 σ (by omega) (by omega) rfl ⟨hw, Fr.rf, fun p a b => ?_⟩ (by omega)⟩
  rw [rl_0, layAll_nil]
  split
  · rename_i e; rw [e]
  · rfl
def addK (f : Int → Int) (b k : Int) (g : Int → Int) : Int → Int := fun c => if b ≤ c ∧ c < b + k then f c + g (c - b) else f c
theorem addK_0 {f g : Int → Int} {b : Int} : addK f b 0 g = f := by
  funext c
  unfold addK
  rw [if_neg (by omega)]
theorem addK_10 {f g : Int → Int} {b : Int} : addK f b 10 g = addR f b g := rfl
theorem addK_succ {f g : Int → Int} {b k : Int} (h : 0 ≤ k) : fu (addK f b k g) (b + k) (f (b + k) + g k) = addK f b (k + 1) g := by
  funext c
  unfold fu addK
  by_cases e : c = b + k
  · rw [if_pos e, if_pos (by omega), e, show b + k - b = k by omega]
  · rw [if_neg e]
    by_cases e2 : b ≤ c ∧ c < b + k
    · rw [if_pos e2, if_pos (by omega)]
    · rw [if_neg e2, if_neg (by omega)]
theorem addK_skip {f g : Int → Int} {b k : Int} (h : 0 ≤ k) (hg : g k = 0) : addK f b k g = addK f b (k + 1) g := by
  rw [← addK_succ h, hg, Int.add_zero]
  funext c
  unfold fu addK
  by_cases e : c = b + k
  · rw [if_pos e, if_neg (by omega), e]
  · rw [if_neg e]
theorem addK_at {f g : Int → Int} {b k : Int} : addK f b k g (b + k) = f (b + k) := by
  unfold addK
  rw [if_neg (by omega)]
theorem lp_spend {Ln : Int} {d : Nat} {σ : AS} {p : Int} (hh : 0 ≤ p ∧ p < 10) (hb : ∀ c : Int, 0 ≤ c → c < 100 → 0 ≤ σ 47 c ∧ σ 47 c ≤ 1000000000) (hg : ∀ o : Int, 0 ≤ o → o < 10 → 0 ≤ σ 50 o ∧ σ 50 o ≤ 1000000000) : ∀ (m k : Nat), k + m = 10 →
    am_E Ln d 41 2 [vR 40, vI p, vI (k : Int)] [] (zc σ 47 (addK (σ 47) (10 * p) k (fun x => if x = σ 5 p then 0 else σ 50 x))) (am_rV fun σ' => σ' = zc σ 47 (addR (σ 47) (10 * p) (fun x => if x = σ 5 p then 0 else σ 50 x))) := by
  intro m
  induction m with
  | zero =>
    intro k hk
    obtain rfl : k = 10 := by omega
    exact vl_X6_spend_2 _ _ _ ⟨fun _ => rfl, fun h => absurd (by omega) h⟩
  | succ m ih =>
    intro k hk
    refine vl_X6_spend_2 _ _ _ ⟨fun h => absurd h (by omega), fun _ => ⟨hh, fun h1 => ?_, fun h1 => ?_⟩⟩
    · rw [zc_ne (by decide)] at h1
      rw [w32_id (by omega) (by omega), addK_skip (k := (k : Int)) (by omega) (by show (if (k : Int) = σ 5 p then 0 else σ 50 k) = 0; rw [if_pos h1]), show (k : Int) + 1 = ((k + 1 : Nat) : Int) by omega]
      exact ih (k + 1) (by omega)
    · rw [zc_ne (by decide)] at h1
      have ei : w32 (w32 (p * 10) + k) = 10 * p + k := by rw [w32_id (x := p * 10) (by omega) (by omega), w32_id (by omega) (by omega)]; omega
      refine ⟨by rw [ei]; omega, ⟨by omega, by omega⟩, by rw [ei]; omega, ?_⟩
      rw [w32_id (x := p * 10) (by omega) (by omega), w32_id (x := p * 10 + k) (by omega) (by omega), show p * 10 + k = 10 * p + k by omega, zc_eq, zc_ne (c' := 50) (by decide), addK_at]
      have b1 := hb (10 * p + k) (by omega) (by omega)
      have b2 := hg k (by omega) (by omega)
      rw [w32_id (by omega) (by omega), w32_id (by omega) (by omega), up_zcs]
      have e := addK_succ (f := σ 47) (g := (fun x => if x = σ 5 p then 0 else σ 50 x)) (b := 10 * p) (k := k) (by omega)
      rw [if_neg h1] at e
      rw [e, show (k : Int) + 1 = ((k + 1 : Nat) : Int) by omega]
      exact ih (k + 1) (by omega)
theorem sp_spend {Ln : Int} {d : Nat} {σ : AS} {p : Int} (hh : 0 ≤ p ∧ p < 10) (hb : ∀ c : Int, 0 ≤ c → c < 100 → 0 ≤ σ 47 c ∧ σ 47 c ≤ 1000000000) (hg : ∀ o : Int, 0 ≤ o → o < 10 → 0 ≤ σ 50 o ∧ σ 50 o ≤ 1000000000) :
    am_M Ln (d + 1) 41 [vR 40, vI p] σ (am_rV fun σ' => σ' = zc σ 47 (addR (σ 47) (10 * p) (fun x => if x = σ 5 p then 0 else σ 50 x))) := by
  have key := lp_spend (Ln := Ln) (d := d) hh hb hg 10 0 (by omega)
  rw [show ((0 : Nat) : Int) = 0 from rfl, addK_0, zc_self] at key
  exact vm_X6_spend _ _ key
theorem lp_buy {Ln : Int} {d : Nat} {σ : AS} {p : Int} (hh : 0 ≤ p ∧ p < 10) (hb : ∀ c : Int, 0 ≤ c → c < 100 → 0 ≤ σ 46 c ∧ σ 46 c ≤ 1000000000) (hg : ∀ o : Int, 0 ≤ o → o < 10 → 0 ≤ σ 50 o ∧ σ 50 o ≤ 1000000000) : ∀ (m k : Nat), k + m = 10 →
    am_E Ln d 42 2 [vR 40, vI p, vI (k : Int)] [] (zc σ 46 (addK (σ 46) (10 * p) k (fun x => σ 50 x))) (am_rV fun σ' => σ' = zc σ 46 (addR (σ 46) (10 * p) (fun x => σ 50 x))) := by
  intro m
  induction m with
  | zero =>
    intro k hk
    obtain rfl : k = 10 := by omega
    exact vl_X6_buy_2 _ _ _ ⟨fun _ => rfl, fun h => absurd (by omega) h⟩
  | succ m ih =>
    intro k hk
    have ei : w32 (w32 (p * 10) + k) = 10 * p + k := by rw [w32_id (x := p * 10) (by omega) (by omega), w32_id (by omega) (by omega)]; omega
    refine vl_X6_buy_2 _ _ _ ⟨fun h => absurd h (by omega), fun _ => ⟨by rw [ei]; omega, ⟨by omega, by omega⟩, by rw [ei]; omega, ?_⟩⟩
    · rw [w32_id (x := p * 10) (by omega) (by omega), w32_id (x := p * 10 + k) (by omega) (by omega), show p * 10 + k = 10 * p + k by omega, zc_eq, zc_ne (c' := 50) (by decide), addK_at]
      have b1 := hb (10 * p + k) (by omega) (by omega)
      have b2 := hg k (by omega) (by omega)
      rw [w32_id (by omega) (by omega), w32_id (by omega) (by omega), up_zcs]
      have e := addK_succ (f := σ 46) (g := (fun x => σ 50 x)) (b := 10 * p) (k := k) (by omega)
      rw [e, show (k : Int) + 1 = ((k + 1 : Nat) : Int) by omega]
      exact ih (k + 1) (by omega)
theorem sp_buy {Ln : Int} {d : Nat} {σ : AS} {p : Int} (hh : 0 ≤ p ∧ p < 10) (hb : ∀ c : Int, 0 ≤ c → c < 100 → 0 ≤ σ 46 c ∧ σ 46 c ≤ 1000000000) (hg : ∀ o : Int, 0 ≤ o → o < 10 → 0 ≤ σ 50 o ∧ σ 50 o ≤ 1000000000) :
    am_M Ln (d + 1) 42 [vR 40, vI p] σ (am_rV fun σ' => σ' = zc σ 46 (addR (σ 46) (10 * p) (fun x => σ 50 x))) := by
  have key := lp_buy (Ln := Ln) (d := d) hh hb hg 10 0 (by omega)
  rw [show ((0 : Nat) : Int) = 0 from rfl, addK_0, zc_self] at key
  exact vm_X6_buy _ _ key
