/-! what a piece of the model's code means -/
theorem bAnd01 : bAnd 0 1 = 0 := by
  have := bAnd_nat (x := 0) (y := 1) (by omega) (by omega)
  simpa using this
theorem bAnd11 : bAnd 1 1 = 1 := by
  have := bAnd_nat (x := 1) (y := 1) (by omega) (by omega)
  simpa using this
def opx (c : Int) : Int := if c = 43 then 5 else if c = 45 then 6 else if c = 42 then 7 else if c = 47 then 8 else if c = 37 then 9 else if c = 60 then 10 else if c = 62 then 11 else 12
def isop (c : Int) : Prop := c = 43 ∨ c = 45 ∨ c = 42 ∨ c = 47 ∨ c = 37 ∨ c = 60 ∨ c = 62 ∨ c = 61
def fct (l : Int) : Int := if l = 115 then 0 else if l = 100 then 1 else if l = 107 then 2 else if l = 112 then 3 else if l = 104 then 4 else if l = 116 then 5 else if l = 111 then 6 else if l = 110 then 7 else -1
theorem sp_worked {Ln : Int} {d : Nat} {σ : AS} {c x y : Int} (hc : isop c) : am_M Ln (d + 1) 190 [vI c, vL x, vL y] σ (am_rL fun r σ' => r = rk (opx c) x y ∧ σ' = σ) := by
  refine vm_X12_worked _ _ _ _ ⟨fun q => ⟨fun z => ⟨?_, rfl⟩, fun z => ⟨?_, ?_, rfl⟩⟩, fun q => ⟨?_, rfl⟩, fun q => ⟨?_, rfl⟩, fun q => ⟨?_, rfl⟩, fun q => ⟨fun z => ⟨?_, rfl⟩, fun z => ⟨?_, ?_, rfl⟩⟩, fun q => ⟨fun z => ⟨?_, rfl⟩, fun z => ⟨?_, rfl⟩⟩, fun q => ⟨fun z => ⟨?_, rfl⟩, fun z => ⟨?_, rfl⟩⟩, fun q => ⟨fun z => ⟨?_, rfl⟩, fun z => ⟨?_, rfl⟩⟩, trivial⟩
  · rw [lCmp_eq] at z; rw [q, z]; simp [rk, opx]
  · rw [lCmp_eq] at z; exact z
  · rw [lCmp_eq] at z; rw [q]; simp [rk, opx, z]
  · rw [q]; simp [rk, opx]
  · rw [q]; simp [rk, opx]
  · rw [q]; simp [rk, opx]
  · rw [lCmp_eq] at z; rw [q, z]; simp [rk, opx]
  · rw [lCmp_eq] at z; exact z
  · rw [lCmp_eq] at z; rw [q]; simp [rk, opx, z]
  · rw [lCmp_ge] at z; rw [q]; simp [rk, opx]; omega
  · rw [lCmp_ge] at z; rw [q]; simp [rk, opx]; omega
  · rw [lCmp_le] at z; rw [q]; simp [rk, opx]; omega
  · rw [lCmp_le] at z; rw [q]; simp [rk, opx]; omega
  · rw [lCmp_eq] at z
    have : c = 61 := by
      simp only [am_ne] at q
      unfold isop at hc
      omega
    rw [this, z]; simp [rk, opx]
  · rw [lCmp_eq] at z
    have : c = 61 := by
      simp only [am_ne] at q
      unfold isop at hc
      omega
    rw [this]; simp [rk, opx, z]
/-- two stacks behind each other -/
def zz (σ : AS) (u w : Int → Int) : AS := zc (zc σ 122 u) 123 w
theorem zz_ne {σ : AS} {u w : Int → Int} {c : Nat} (h : c ≠ 122) (h2 : c ≠ 123) : zz σ u w c = σ c := by unfold zz; rw [zc_ne h2, zc_ne h]
theorem zz_u {σ : AS} {u w : Int → Int} : zz σ u w 122 = u := by unfold zz; rw [zc_ne (by decide), zc_eq]
theorem zz_w {σ : AS} {u w : Int → Int} : zz σ u w 123 = w := by unfold zz; rw [zc_eq]
theorem zz_zz {σ : AS} {u w u2 w2 : Int → Int} : zz (zz σ u w) u2 w2 = zz σ u2 w2 := by
  unfold zz
  rw [zc_comm (a := 123) (b := 122) (by decide), zc_zc, zc_zc]
theorem zz_self {σ : AS} : zz σ (σ 122) (σ 123) = σ := by
  unfold zz
  rw [zc_self, zc_self]
theorem up_u {σ : AS} {u w : Int → Int} {i v : Int} : am_up (zz σ u w) 122 i v = zz σ (fu u i v) w := by
  unfold zz
  rw [up_zc, zc_comm (a := 123) (b := 122) (by decide), zc_zc, zc_ne (by decide), zc_eq]
theorem up_w {σ : AS} {u w : Int → Int} {i v : Int} : am_up (zz σ u w) 123 i v = zz σ u (fu w i v) := by
  unfold zz
  rw [up_zcs]
theorem zz_fr {σ : AS} {u w : Int → Int} : Fr [122, 123] [] σ (zz σ u w) := by
  unfold zz
  exact Fr.cl (Fr.cl Fr.rf (by decide)) (by decide)
/-- two values become one -/
theorem sp_does_op {Ln : Int} {d : Nat} {σ : AS} {c a : Int} {u w : Int → Int} (hc : isop c) (ha : 0 ≤ a ∧ a < 199) :
    am_M Ln (d + 2) 191 [vR 82, vI c, vI a] (zz σ u w) (am_rV fun σ' => σ' = zz σ (fu u a (rk (opx c) (u a) (u (a + 1)))) (fu w a (if w a = 0 ∧ w (a + 1) = 0 ∧ ¬ ((c = 47 ∨ c = 37) ∧ u (a + 1) = 0) then 0 else 1))) := by
  have ra : 0 ≤ a ∧ a < 200 := by omega
  have rb : 0 ≤ a + 1 ∧ a + 1 < 200 := by omega
  have fin : ∀ (v : Int) (b : Int), bAnd b 1 = v → v = (if w a = 0 ∧ w (a + 1) = 0 ∧ ¬ ((c = 47 ∨ c = 37) ∧ u (a + 1) = 0) then 0 else 1) → (0 ≤ a ∧ a < 200) ∧ ((0 ≤ a ∧ a < 200) ∧ ((0 ≤ a + 1 ∧ a + 1 < 200) ∧ (∃ T : Option AV → AS → Prop, am_M Ln (d + 1) 190 [vI c, vL (u a), vL (u (a + 1))] (am_up (zz σ u w) 123 a (bAnd b 1)) T ∧ ∀ (r2 : Int) s1, T (some (vL r2)) s1 →
      (0 ≤ a ∧ a < 200) ∧ ((am_rV fun σ' => σ' = zz σ (fu u a (rk (opx c) (u a) (u (a + 1)))) (fu w a (if w a = 0 ∧ w (a + 1) = 0 ∧ ¬ ((c = 47 ∨ c = 37) ∧ u (a + 1) = 0) then 0 else 1))) none (am_up s1 122 a r2))))) := by
    intro v b hb hv
    rw [hb, up_w]
    refine ⟨ra, ra, rb, cL (sp_worked hc) ?_⟩
    rintro r s1 ⟨rfl, rfl⟩
    refine ⟨ra, ?_⟩
    rw [up_u, ← hv]
    rfl
  refine vm_X12_does _ _ _ ?_
  rw [w32_id (x := a + 1) (by omega) (by omega), zz_w, zz_u]
  refine ⟨fun q => absurd q (by unfold isop at hc; omega), fun _ => ⟨fun q => absurd q (by unfold isop at hc; omega), fun _ => ⟨ra, fun h1 => ⟨rb, fun h2 => ⟨fun h3 => ⟨rb, fun h4 => ?_, fun h4 => ?_⟩, fun h3 => ⟨fun h4 => ⟨rb, fun h5 => ?_, fun h5 => ?_⟩, fun h4 => ?_⟩⟩, fun h2 => ?_⟩, fun h1 => ?_⟩⟩⟩
  · exact fin 1 1 bAnd11 (by rw [if_neg (fun q => q.2.2 ⟨Or.inl h3, lCmp_eq.mp h4⟩)])
  · exact fin 0 0 bAnd01 (by rw [if_pos ⟨h1, h2, fun q => h4 (lCmp_eq.mpr q.2)⟩])
  · exact fin 1 1 bAnd11 (by rw [if_neg (fun q => q.2.2 ⟨Or.inr h4, lCmp_eq.mp h5⟩)])
  · exact fin 0 0 bAnd01 (by rw [if_pos ⟨h1, h2, fun q => h5 (lCmp_eq.mpr q.2)⟩])
  · exact fin 0 0 bAnd01 (by rw [if_pos ⟨h1, h2, fun q => q.1.elim h3 h4⟩])
  · exact fin 1 1 bAnd11 (by rw [if_neg (fun q => h2 q.2.1)])
  · exact fin 1 1 bAnd11 (by rw [if_neg (fun q => h1 q.1)])
theorem sp_does_jn {Ln : Int} {d : Nat} {σ : AS} {c a : Int} {u w : Int → Int} (hc : c = 38 ∨ c = 124) (ha : 0 ≤ a ∧ a < 199) (hw : w (a + 1) = 0 ∨ w (a + 1) = 1) :
    am_M Ln (d + 2) 191 [vR 82, vI c, vI a] (zz σ u w) (am_rV fun σ' => σ' = if w a = 0 ∧ u a = (if c = 38 then 1 else 0) then zz σ (fu u a (u (a + 1))) (fu w a (w (a + 1))) else zz σ u w) := by
  have ra : 0 ≤ a ∧ a < 200 := by omega
  have rb : 0 ≤ a + 1 ∧ a + 1 < 200 := by omega
  have eb : bAnd (w (a + 1)) 1 = w (a + 1) := by
    rcases hw with q | q
    · rw [q]; exact bAnd01
    · rw [q]; exact bAnd11
  refine vm_X12_does _ _ _ ?_
  rw [w32_id (x := a + 1) (by omega) (by omega), zz_w, zz_u, eb, up_u, up_w]
  refine ⟨fun q => ⟨ra, fun h1 => ⟨ra, fun _ => ⟨fun z => ⟨rb, ra, rb, ra, ?_⟩, fun z => ?_⟩, fun z => absurd q z⟩, fun h1 => ?_⟩, fun q => ⟨fun q2 => ⟨ra, fun h1 => ⟨ra, fun z => absurd z q, fun _ => ⟨fun z => ⟨rb, ra, rb, ra, ?_⟩, fun z => ?_⟩⟩, fun h1 => ?_⟩, fun q2 => absurd (hc.resolve_left q) q2⟩⟩
  · show _ = _; rw [if_pos ⟨h1, by rw [if_pos q]; exact lCmp_eq.mp z⟩]
  · show _ = _; rw [if_neg (fun y => z (lCmp_eq.mpr (by have := y.2; rwa [if_pos q] at this)))]
  · show _ = _; rw [if_neg (fun y => h1 y.1)]
  · show _ = _; rw [if_pos ⟨h1, by rw [if_neg q]; exact lCmp_eq.mp z⟩]
  · show _ = _; rw [if_neg (fun y => z (lCmp_eq.mpr (by have := y.2; rwa [if_neg q] at this)))]
  · show _ = _; rw [if_neg (fun y => h1 y.1)]
section HM
variable {Ln : Int} {d : Nat} {σ : AS} {k i x n base e v l : Int} {u w : Int → Int} {Q : Option AV → AS → Prop}
theorem hm_num (hk : 0 ≤ k ∧ k < 240) (he : σ 105 k = e) (hb : -1000000 ≤ base + e ∧ base + e ≤ 3200) (hx : 0 ≤ x ∧ x < base + e) (hn : 0 ≤ n ∧ n < 200) (h1 : σ 106 x = 0) (h2 : σ 107 x = v)
    (c : am_E Ln d 192 23 [vR 82, vI k, vI i, vI (n + 1), vI base, vI (x + 1)] [] (zz σ (fu u n v) (fu w n 0)) Q) : am_E Ln d 192 23 [vR 82, vI k, vI i, vI n, vI base, vI x] [] (zz σ u w) Q := by
  refine vl_X12_holds_23 _ _ _ _ _ _ ?_
  rw [zz_ne (c := 105) (by decide) (by decide), zz_ne (c := 106) (by decide) (by decide), zz_ne (c := 107) (by decide) (by decide), he, h1, h2, w32_id (x := base + e) (by omega) (by omega), w32_id (x := n + 1) (by omega) (by omega), w32_id (x := x + 1) (by omega) (by omega), bAnd01, up_w]
  exact ⟨hk, fun q => absurd q (by omega), fun _ => ⟨⟨hx.1, by omega⟩, fun _ => ⟨⟨hx.1, by omega⟩, fun q => absurd q (by decide), fun _ => ⟨hn, ⟨hx.1, by omega⟩, fun _ => ⟨⟨hx.1, by omega⟩, hn, by rw [up_u]; exact c⟩, fun q => absurd rfl q⟩⟩, fun q => absurd (by omega) q⟩⟩
theorem hm_let (hk : 0 ≤ k ∧ k < 240) (he : σ 105 k = e) (hb : -1000000 ≤ base + e ∧ base + e ≤ 3200) (hx : 0 ≤ x ∧ x < base + e) (hn : 0 ≤ n ∧ n < 200) (h1 : σ 106 x = 1) (h2 : σ 107 x = l)
    (hv : ∀ s, Fr [122, 123] [] σ s → am_M Ln d 189 [vR 82, vI l, vI i] s (am_rI fun r s' => r = v ∧ s' = s))
    (c : am_E Ln d 192 23 [vR 82, vI k, vI i, vI (n + 1), vI base, vI (x + 1)] [] (zz σ (fu u n v) (fu w n 0)) Q) : am_E Ln d 192 23 [vR 82, vI k, vI i, vI n, vI base, vI x] [] (zz σ u w) Q := by
  refine vl_X12_holds_23 _ _ _ _ _ _ ?_
  rw [zz_ne (c := 105) (by decide) (by decide), zz_ne (c := 106) (by decide) (by decide), zz_ne (c := 107) (by decide) (by decide), he, h1, h2, w32_id (x := base + e) (by omega) (by omega), w32_id (x := n + 1) (by omega) (by omega), w32_id (x := x + 1) (by omega) (by omega), bAnd01, up_w]
  refine ⟨hk, fun q => absurd q (by omega), fun _ => ⟨⟨hx.1, by omega⟩, fun _ => ⟨⟨hx.1, by omega⟩, fun q => absurd q (by decide), fun _ => ⟨hn, ⟨hx.1, by omega⟩, fun q => absurd q (by decide), fun _ => ⟨⟨hx.1, by omega⟩, cI (hv _ zz_fr) ?_⟩⟩⟩, fun q => absurd (by omega) q⟩⟩
  rintro r s1 ⟨rfl, rfl⟩
  rw [up_u]
  exact ⟨hn, c⟩
theorem hm_not (hk : 0 ≤ k ∧ k < 240) (he : σ 105 k = e) (hb : -1000000 ≤ base + e ∧ base + e ≤ 3200) (hx : 0 ≤ x ∧ x < base + e) (hn : 0 < n ∧ n < 200) (h1 : σ 106 x = 2)
    (c : am_E Ln d 192 23 [vR 82, vI k, vI i, vI n, vI base, vI (x + 1)] [] (zz σ (fu u (n - 1) (w64 (1 - u (n - 1)))) w) Q) : am_E Ln d 192 23 [vR 82, vI k, vI i, vI n, vI base, vI x] [] (zz σ u w) Q := by
  refine vl_X12_holds_23 _ _ _ _ _ _ ?_
  rw [zz_ne (c := 105) (by decide) (by decide), zz_ne (c := 106) (by decide) (by decide), he, h1, w32_id (x := base + e) (by omega) (by omega), w32_id (x := n - 1) (by omega) (by omega), w32_id (x := x + 1) (by omega) (by omega), zz_u, up_u]
  exact ⟨hk, fun q => absurd q (by omega), fun _ => ⟨⟨hx.1, by omega⟩, fun _ => ⟨⟨hx.1, by omega⟩, fun _ => ⟨⟨by omega, by omega⟩, ⟨by omega, by omega⟩, c⟩, fun q => absurd rfl q⟩, fun q => absurd (by omega) q⟩⟩
theorem hm_op {ch : Int} {R : AS → Prop} (hk : 0 ≤ k ∧ k < 240) (he : σ 105 k = e) (hb : -1000000 ≤ base + e ∧ base + e ≤ 3200) (hx : 0 ≤ x ∧ x < base + e) (hn : 1 < n ∧ n < 200) (h1 : σ 106 x = ch) (hch : 2 < ch) (hd : am_M Ln d 191 [vR 82, vI ch, vI (n - 2)] (zz σ u w) (am_rV R))
    (c : ∀ s, R s → am_E Ln d 192 23 [vR 82, vI k, vI i, vI (n - 1), vI base, vI (x + 1)] [] s Q) : am_E Ln d 192 23 [vR 82, vI k, vI i, vI n, vI base, vI x] [] (zz σ u w) Q := by
  refine vl_X12_holds_23 _ _ _ _ _ _ ?_
  rw [zz_ne (c := 105) (by decide) (by decide), zz_ne (c := 106) (by decide) (by decide), he, h1, w32_id (x := base + e) (by omega) (by omega), w32_id (x := n + -1) (by omega) (by omega), w32_id (x := n + -1 - 1) (by omega) (by omega), w32_id (x := x + 1) (by omega) (by omega), show n + -1 - 1 = n - 2 by omega, show n + -1 = n - 1 by omega]
  exact ⟨hk, fun q => absurd q (by omega), fun _ => ⟨⟨hx.1, by omega⟩, fun q => absurd q (by omega), fun _ => ⟨⟨hx.1, by omega⟩, cV hd c⟩⟩⟩
theorem hm_end (hk : 0 ≤ k ∧ k < 240) (he : σ 105 k = e) (hb : -1000000 ≤ base + e ∧ base + e ≤ 3200) (hx : base + e ≤ x) (c1 : w 0 = 0 ∧ u 0 = 1 → am_b 1 ∧ Q (some (vI 1)) (zz σ u w)) (c2 : ¬ (w 0 = 0 ∧ u 0 = 1) → am_b 0 ∧ Q (some (vI 0)) (zz σ u w)) : am_E Ln d 192 23 [vR 82, vI k, vI i, vI n, vI base, vI x] [] (zz σ u w) Q := by
  refine vl_X12_holds_23 _ _ _ _ _ _ ?_
  rw [zz_ne (c := 105) (by decide) (by decide), he, w32_id (x := base + e) (by omega) (by omega), zz_u, zz_w]
  exact ⟨hk, fun _ => ⟨⟨by omega, by omega⟩, fun h1 => ⟨⟨by omega, by omega⟩, fun h2 => c1 ⟨h1, lCmp_eq.mp h2⟩, fun h2 => c2 (fun q => h2 (lCmp_eq.mpr q.2))⟩, fun h1 => c2 (fun q => h1 q.1)⟩, fun q => absurd hx q⟩
end HM
