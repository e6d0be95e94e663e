/-! pieces of the model's code, put together -/
def cds (σ : AS) (x : Int) (m : List (Int × Int)) : Prop := rl (m.length : Int) (fun j => (σ 106 (x + j), σ 107 (x + j))) = m
theorem cds_app {σ : AS} {x : Int} {m1 m2 : List (Int × Int)} (h : cds σ x (m1 ++ m2)) : cds σ x m1 ∧ cds σ (x + m1.length) m2 := by
  unfold cds at h ⊢
  rw [List.length_append, rl_split (a := (m1.length : Int)) _ (by omega) (by omega), show ((m1.length + m2.length : Nat) : Int) - m1.length = m2.length by omega] at h
  have := List.append_inj h (by rw [rl_len]; omega)
  refine ⟨this.1, ?_⟩
  rw [← this.2]
  rw [rl_len, show (((m2.length : Int).toNat : Nat) : Int) = m2.length by omega]
  exact rl_congr fun j _ _ => by rw [Int.add_assoc]
theorem cds_one {σ : AS} {x a b : Int} (h : cds σ x [(a, b)]) : σ 106 x = a ∧ σ 107 x = b := by
  unfold cds at h
  have e : rl (([(a, b)] : List (Int × Int)).length : Int) (fun j => (σ 106 (x + j), σ 107 (x + j))) = [(σ 106 (x + 0), σ 107 (x + 0))] := rfl
  rw [e, Int.add_zero] at h
  injection h with h1 h2
  injection h1 with h3 h4
  exact ⟨h3, h4⟩
/-- refused or not -/
def rfv : Option Int → Int
  | none => 1
  | some _ => 0
theorem rfv_b (o : Option Int) : rfv o = 0 ∨ rfv o = 1 := by
  cases o
  · exact Or.inr rfl
  · exact Or.inl rfl
def SM (m : List (Int × Int)) (N : Int) (g : GF) : Prop := 1 ≤ N ∧ ∀ (Ln : Int) (d : Nat) (σ : AS) (u w : Int → Int) (k i x n base e : Int) (f : Int → Int) (Q : Option AV → AS → Prop), (0 ≤ k ∧ k < 240) → σ 105 k = e → (-1000000 ≤ base + e ∧ base + e ≤ 3200) → 0 ≤ x → x + m.length ≤ base + e → cds σ x m → 0 ≤ n → n + N < 199 →
  (∀ s l, Fr [122, 123] [] σ s → 0 ≤ fct l → am_M Ln (d + 3) 189 [vR 82, vI l, vI i] s (am_rI fun r s' => r = f (fct l) ∧ s' = s)) →
  (∀ u' w', (∀ j : Int, j < n → u' j = u j ∧ w' j = w j) → w' n = rfv (g f) → (∀ v, g f = some v → u' n = v) → am_E Ln (d + 3) 192 23 [vR 82, vI k, vI i, vI (n + 1), vI base, vI (x + m.length)] [] (zz σ u' w') Q) →
  am_E Ln (d + 3) 192 23 [vR 82, vI k, vI i, vI n, vI base, vI x] [] (zz σ u w) Q
theorem SM_mono {m : List (Int × Int)} {N N' : Int} {g : GF} (h : SM m N g) (hn : N ≤ N') : SM m N' g :=
  ⟨by have := h.1; omega, fun Ln d σ u w k i x n base e f Q a1 a2 a3 a4 a5 a6 a7 a8 => h.2 Ln d σ u w k i x n base e f Q a1 a2 a3 a4 a5 a6 a7 (by omega)⟩
theorem SM_num {v : Int} : SM [(0, v)] 1 (fun _ => some v) := by
  refine ⟨by omega, fun Ln d σ u w k i x n base e f Q hk he hb hx hxe hc hn h2 hv k1 => ?_⟩
  obtain ⟨c1, c2⟩ := cds_one hc
  have hl : (([(0, v)] : List (Int × Int)).length : Int) = 1 := rfl
  rw [hl] at hxe k1
  refine hm_num (σ := σ) hk he hb ⟨hx, by omega⟩ ⟨hn, by omega⟩ c1 c2 (k1 _ _ (fun j hj => ⟨fu_ne (by omega), fu_ne (by omega)⟩) ?_ (fun v' hv' => ?_))
  · rw [fu_eq]; rfl
  · rw [fu_eq]; injection hv'
theorem SM_let {l : Int} (hl0 : 0 ≤ fct l) : SM [(1, l)] 1 (fun f => some (f (fct l))) := by
  refine ⟨by omega, fun Ln d σ u w k i x n base e f Q hk he hb hx hxe hc hn h2 hv k1 => ?_⟩
  obtain ⟨c1, c2⟩ := cds_one hc
  have hl : (([(1, l)] : List (Int × Int)).length : Int) = 1 := rfl
  rw [hl] at hxe k1
  refine hm_let (σ := σ) (v := f (fct l)) hk he hb ⟨hx, by omega⟩ ⟨hn, by omega⟩ c1 c2 (fun s hs => hv s l hs hl0) (k1 _ _ (fun j hj => ⟨fu_ne (by omega), fu_ne (by omega)⟩) ?_ (fun v' hv' => ?_))
  · rw [fu_eq]; rfl
  · rw [fu_eq]; injection hv'
theorem SM_not {m : List (Int × Int)} {N a : Int} {g : GF} (h : SM m N g) : SM (m ++ [(2, a)]) N (notg g) := by
  refine ⟨h.1, fun Ln d σ u w k i x n base e f Q hk he hb hx hxe hc hn h2 hv k1 => ?_⟩
  obtain ⟨c1, c2⟩ := cds_app hc
  obtain ⟨c3, -⟩ := cds_one c2
  have hl : ((m ++ [(2, a)] : List (Int × Int)).length : Int) = m.length + 1 := by simp
  rw [hl] at hxe k1
  have hN := h.1
  refine h.2 Ln d σ u w k i x n base e f Q hk he hb hx (by omega) c1 hn h2 hv (fun u1 w1 h1 h3 h4 => ?_)
  refine hm_not (σ := σ) hk he hb ⟨by omega, by omega⟩ ⟨by omega, by omega⟩ c3 ?_
  rw [show n + 1 - 1 = n by omega, Int.add_assoc]
  refine k1 _ _ (fun j hj => ⟨by rw [fu_ne (by omega)]; exact (h1 j hj).1, (h1 j hj).2⟩) ?_ (fun v' hv' => ?_)
  · rw [h3]
    unfold notg
    cases e1 : g f with
    | none => rfl
    | some x => rfl
  · rw [fu_eq]
    unfold notg at hv'
    cases e1 : g f with
    | none => rw [e1] at hv'; cases hv'
    | some x =>
      rw [e1] at hv'
      injection hv' with hv'
      rw [h4 x e1, hv']
theorem SM_two {m1 m2 : List (Int × Int)} {N1 N2 a c : Int} {g1 g2 g : GF} (h1 : SM m1 N1 g1) (h2 : SM m2 N2 g2) (hc2 : 2 < c)
    (hd : ∀ (Ln : Int) (d : Nat) (σ : AS) (n : Int) (u w : Int → Int) (f : Int → Int), (0 ≤ n ∧ n < 199) → w n = rfv (g1 f) → (∀ v, g1 f = some v → u n = v) → w (n + 1) = rfv (g2 f) → (∀ v, g2 f = some v → u (n + 1) = v) →
      am_M Ln (d + 2) 191 [vR 82, vI c, vI n] (zz σ u w) (am_rV fun σ' => ∃ u' w', σ' = zz σ u' w' ∧ (∀ j : Int, j < n → u' j = u j ∧ w' j = w j) ∧ w' n = rfv (g f) ∧ ∀ v, g f = some v → u' n = v)) :
    SM (m1 ++ m2 ++ [(c, a)]) (max N1 (N2 + 1)) g := by
  have hN1 := h1.1
  have hN2 := h2.1
  refine ⟨by omega, fun Ln d σ u w k i x n base e f Q hk he hb hx hxe hc hn h3 hv k1 => ?_⟩
  obtain ⟨c1, c2⟩ := cds_app hc
  obtain ⟨c4, c5⟩ := cds_app c1
  obtain ⟨c3, -⟩ := cds_one c2
  have hl : ((m1 ++ m2 ++ [(c, a)] : List (Int × Int)).length : Int) = m1.length + m2.length + 1 := by simp; omega
  have hl2 : ((m1 ++ m2 : List (Int × Int)).length : Int) = m1.length + m2.length := by simp
  rw [hl] at hxe k1
  rw [hl2] at c3
  refine h1.2 Ln d σ u w k i x n base e f Q hk he hb hx (by omega) c4 hn (by omega) hv (fun u1 w1 q1 q3 q4 => ?_)
  refine h2.2 Ln d σ u1 w1 k i (x + m1.length) (n + 1) base e f Q hk he hb (by omega) (by omega) c5 (by omega) (by omega) hv (fun u2 w2 r1 r3 r4 => ?_)
  have hd' := hd Ln (d + 1) σ n u2 w2 f ⟨hn, by omega⟩ (by rw [(r1 n (by omega)).2, q3]) (fun v hg => by rw [(r1 n (by omega)).1]; exact q4 v hg) r3 r4
  rw [show n = n + 1 + 1 - 2 by omega] at hd'
  refine hm_op (σ := σ) hk he hb ⟨by omega, by omega⟩ ⟨by omega, by omega⟩ (by rw [Int.add_assoc]; exact c3) hc2 hd' ?_
  rintro s ⟨u3, w3, rfl, s1, s2, s3⟩
  rw [show n + 1 + 1 - 2 = n by omega] at s1 s2 s3
  rw [show n + 1 + 1 - 1 = n + 1 by omega, show x + (m1.length : Int) + m2.length + 1 = x + (m1.length + m2.length + 1) by omega]
  exact k1 u3 w3 (fun j hj => ⟨by rw [(s1 j hj).1, (r1 j (by omega)).1, (q1 j hj).1], by rw [(s1 j hj).2, (r1 j (by omega)).2, (q1 j hj).2]⟩) s2 s3
theorem opx_div {c : Int} (hc : isop c) : (c = 47 ∨ c = 37) ↔ (opx c = 8 ∨ opx c = 9) := by
  unfold isop at hc
  rcases hc with q | q | q | q | q | q | q | q <;> rw [q] <;> simp [opx]
theorem SM_bin {m1 m2 : List (Int × Int)} {N1 N2 a c : Int} {g1 g2 : GF} (h1 : SM m1 N1 g1) (h2 : SM m2 N2 g2) (hc : isop c) : SM (m1 ++ m2 ++ [(c, a)]) (max N1 (N2 + 1)) (bing (opx c) g1 g2) := by
  refine SM_two h1 h2 (by unfold isop at hc; omega) (fun Ln d σ n u w f hn w1 u1 w2 u2 => ?_)
  refine am_MV (sp_does_op hc hn) ?_
  rintro s rfl
  refine ⟨_, _, rfl, fun j hj => ⟨fu_ne (by omega), fu_ne (by omega)⟩, ?_, ?_⟩
  · rw [fu_eq]
    unfold bing
    cases e1 : g1 f with
    | none =>
      rw [e1] at w1
      rw [if_neg (fun q => by rw [w1] at q; exact absurd q.1 (by decide))]
      rfl
    | some x =>
      cases e2 : g2 f with
      | none =>
        rw [e2] at w2
        rw [if_neg (fun q => by rw [w2] at q; exact absurd q.2.1 (by decide))]
        rfl
      | some y =>
        rw [e1] at w1
        rw [e2] at w2
        have ey := u2 y e2
        dsimp only
        by_cases hz : y = 0 ∧ (opx c = 8 ∨ opx c = 9)
        · rw [if_pos hz, if_neg (fun q => q.2.2 ⟨(opx_div hc).mpr hz.2, by rw [ey]; exact hz.1⟩)]
          rfl
        · rw [if_neg hz, if_pos ⟨by rw [w1]; rfl, by rw [w2]; rfl, fun q => hz ⟨by rw [← ey]; exact q.2, (opx_div hc).mp q.1⟩⟩]
          rfl
  · intro v hv
    rw [fu_eq]
    unfold bing at hv
    cases e1 : g1 f with
    | none => rw [e1] at hv; cases hv
    | some x =>
      cases e2 : g2 f with
      | none => rw [e1, e2] at hv; cases hv
      | some y =>
        rw [e1, e2] at hv
        dsimp only at hv
        split at hv
        · cases hv
        · injection hv with hv
          rw [u1 x e1, u2 y e2, hv]
theorem SM_and {m1 m2 : List (Int × Int)} {N1 N2 a : Int} {g1 g2 : GF} (h1 : SM m1 N1 g1) (h2 : SM m2 N2 g2) (hb : BO g1) : SM (m1 ++ m2 ++ [(38, a)]) (max N1 (N2 + 1)) (andg g1 g2) := by
  refine SM_two h1 h2 (by omega) (fun Ln d σ n u w f hn w1 u1 w2 u2 => ?_)
  refine am_MV (sp_does_jn (Or.inl rfl) hn (by rw [w2]; exact rfv_b _)) ?_
  rintro s rfl
  rw [if_pos rfl]
  unfold andg
  cases e1 : g1 f with
  | none =>
    rw [e1] at w1
    rw [if_neg (fun q => by rw [w1] at q; exact absurd q.1 (by decide))]
    exact ⟨u, w, rfl, fun j _ => ⟨rfl, rfl⟩, w1, fun v hv => by cases hv⟩
  | some x =>
    rw [e1] at w1
    have ex := u1 x e1
    dsimp only
    rcases hb f x e1 with q | q
    · rw [if_neg (fun z => by rw [ex, q] at z; exact absurd z.2 (by decide)), if_pos q]
      refine ⟨u, w, rfl, fun j _ => ⟨rfl, rfl⟩, w1, fun v hv => ?_⟩
      injection hv with hv
      rw [ex, hv]
    · rw [if_pos ⟨by rw [w1]; rfl, by rw [ex, q]⟩, if_neg (by omega)]
      exact ⟨_, _, rfl, fun j hj => ⟨fu_ne (by omega), fu_ne (by omega)⟩, by rw [fu_eq, w2], fun v hv => by rw [fu_eq]; exact u2 v hv⟩
theorem SM_or {m1 m2 : List (Int × Int)} {N1 N2 a : Int} {g1 g2 : GF} (h1 : SM m1 N1 g1) (h2 : SM m2 N2 g2) (hb : BO g1) : SM (m1 ++ m2 ++ [(124, a)]) (max N1 (N2 + 1)) (org g1 g2) := by
  refine SM_two h1 h2 (by omega) (fun Ln d σ n u w f hn w1 u1 w2 u2 => ?_)
  refine am_MV (sp_does_jn (Or.inr rfl) hn (by rw [w2]; exact rfv_b _)) ?_
  rintro s rfl
  rw [if_neg (by decide : ¬ (124 : Int) = 38)]
  unfold org
  cases e1 : g1 f with
  | none =>
    rw [e1] at w1
    rw [if_neg (fun q => by rw [w1] at q; exact absurd q.1 (by decide))]
    exact ⟨u, w, rfl, fun j _ => ⟨rfl, rfl⟩, w1, fun v hv => by cases hv⟩
  | some x =>
    rw [e1] at w1
    have ex := u1 x e1
    dsimp only
    rcases hb f x e1 with q | q
    · rw [if_pos ⟨by rw [w1]; rfl, by rw [ex, q]⟩, if_pos q]
      exact ⟨_, _, rfl, fun j hj => ⟨fu_ne (by omega), fu_ne (by omega)⟩, by rw [fu_eq, w2], fun v hv => by rw [fu_eq]; exact u2 v hv⟩
    · rw [if_neg (fun z => by rw [ex, q] at z; exact absurd z.2 (by decide)), if_neg (by omega)]
      refine ⟨u, w, rfl, fun j _ => ⟨rfl, rfl⟩, w1, fun v hv => ?_⟩
      injection hv with hv
      rw [ex, hv]
theorem sp_mholds {Ln : Int} {d : Nat} {σ : AS} {k i r : Int} {f : Int → Int} {g : GF} {m : List (Int × Int)} (hk : 0 ≤ k ∧ k < 240) (hr : k / 12 = r) (hm : cds σ (160 * r + σ 104 k) m) (hl : σ 104 k + m.length = σ 105 k) (h0 : 0 ≤ σ 104 k) (h1 : 160 * r + σ 105 k ≤ 3200) (h : SM m 198 g)
    (hv : ∀ s l, Fr [122, 123] [] σ s → 0 ≤ fct l → am_M Ln (d + 3) 189 [vR 82, vI l, vI i] s (am_rI fun r s' => r = f (fct l) ∧ s' = s)) :
    am_M Ln (d + 4) 192 [vR 82, vI k, vI i] σ (am_rI fun r σ' => r = (if g f = some 1 then 1 else 0) ∧ Fr [122, 123] [] σ σ') := by
  refine vm_X12_holds _ _ _ ⟨by decide, hk, ?_⟩
  have hr0 : 0 ≤ r ∧ r < 20 := by omega
  have e1 : w32 (Int.tdiv k 12) = r := by rw [tdiv_nn hk.1, w32_id (by omega) (by omega), hr]
  rw [e1, w32_id (x := r * 160) (by omega) (by omega), w32_id (x := r * 160 + σ 104 k) (by omega) (by omega), show r * 160 + σ 104 k = 160 * r + σ 104 k by omega, show r * 160 = 160 * r by omega]
  have key := h.2 Ln d σ (σ 122) (σ 123) k i (160 * r + σ 104 k) 0 (160 * r) (σ 105 k) f (am_rI fun r σ' => r = (if g f = some 1 then 1 else 0) ∧ Fr [122, 123] [] σ σ') hk rfl ⟨by omega, h1⟩ (by omega) (by omega) hm (by omega) (by omega) hv (fun u w _ hw hu => ?_)
  · rw [zz_self] at key
    exact key
  · refine hm_end hk rfl ⟨by omega, h1⟩ (by omega) (fun q => ⟨am_b1, ?_, zz_fr⟩) (fun q => ⟨am_b0, ?_, zz_fr⟩)
    · cases e : g f with
      | none => rw [e] at hw; rw [hw] at q; exact absurd q.1 (by decide)
      | some v => rw [← hu v e, q.2]; rfl
    · cases e : g f with
      | none => rfl
      | some v =>
        rw [e] at hw
        rw [if_neg]
        intro z
        injection z with z
        exact q ⟨by rw [hw]; rfl, by rw [hu v e, z]⟩
