/-! a step of the abstract machine is steps of the machine -/
theorem am_cons {v : AV} {r : List AV} (h1 : am_in v) (h2 : ∀ w ∈ r, am_in w) : ∀ w ∈ v :: r, am_in w := fun w hw => by
  rcases List.mem_cons.mp hw with rfl | q
  · exact h1
  · exact h2 w q
theorem am_hd {v : AV} {r : List AV} (h : ∀ w ∈ v :: r, am_in w) : am_in v := h v List.mem_cons_self
theorem am_tl {v : AV} {r : List AV} (h : ∀ w ∈ v :: r, am_in w) : ∀ w ∈ r, am_in w := fun w hw => h w (List.mem_cons_of_mem _ hw)
theorem am_len {a b : Nat} (h : Nat.beq a b = true) : a = b := Nat.eq_of_beq_eq_true h
theorem am_tgt_eq {pc : Nat} {off : Int} (h : am_nn pc off = true) : (pc : Int) + off = ((am_tgt pc off : Nat) : Int) := by
  have h2 : 0 ≤ (pc : Int) + off := by simpa [am_nn] using h
  unfold am_tgt
  omega
theorem am_i32_in {x : Int} (h : am_i32 x = true) : in32 x := by simpa [am_i32, in32] using h
theorem am_i64_in {x : Int} (h : am_i64 x = true) : in64 x := by simpa [am_i64, in64] using h
theorem am_all_app {K : Nat → List AV → List AV → AS → Prop} : ∀ {l1 l2 : List (Prop × AC)}, am_all K (l1 ++ l2) → am_all K l1 ∧ am_all K l2
  | [], _, h => ⟨trivial, h⟩
  | (_, _, _, _, _) :: r, _, h => ⟨⟨h.1, (am_all_app (l1 := r) h.2).1⟩, (am_all_app (l1 := r) h.2).2⟩
theorem am_tab_at {K : Nat → List AV → List AV → AS → Prop} {ls st : List AV} {σ : AS} {pc : Nat} {x off : Int} : ∀ {offs : List Int} {lo : Int} {j : Nat}, am_all K (am_tab ls st σ pc x lo offs) → offs[j]? = some off → x = lo + j → K (am_tgt pc off) ls st σ
  | [], lo, j, _, h, _ => by simp at h
  | o :: r, lo, 0, h, h2, h3 => by
    have e : o = off := by simpa using h2
    subst e
    exact h.1 (by simpa using h3)
  | o :: r, lo, j + 1, h, h2, h3 => am_tab_at (offs := r) (lo := lo + 1) (j := j) h.2 (by simpa using h2) (by rw [h3]; push_cast; omega)
theorem am_lkp_at {K : Nat → List AV → List AV → AS → Prop} {ls st : List AV} {σ : AS} {pc : Nat} {x d : Int} : ∀ {ps : List (Int × Int)}, am_all K (am_lkp ls st σ pc x ps) → (am_ne x ps → K (am_tgt pc d) ls st σ) → (∀ q ∈ ps, am_nn pc q.2 = true) → am_nn pc d = true →
    ∃ off, Op.lookupswitch.offset ps d x = off ∧ K (am_tgt pc off) ls st σ ∧ am_nn pc off = true
  | [], _, h2, _, h4 => ⟨d, Op.lookupswitch.offset_nil _ _, h2 trivial, h4⟩
  | (k, o) :: r, h, h2, h3, h4 => by
    rw [Op.lookupswitch.offset_cons]
    by_cases e : k = x
    · rw [if_pos e]
      exact ⟨o, rfl, h.1 e.symm, h3 (k, o) List.mem_cons_self⟩
    · rw [if_neg e]
      exact am_lkp_at (ps := r) h.2 (fun q => h2 ⟨fun z => e z.symm, q⟩) (fun q hq => h3 q (List.mem_cons_of_mem _ hq)) h4
theorem am_kd_0 {Ln : Int} : am_kd Ln 0 = (5, Ln, 0) := rfl
theorem am_kd_5 {Ln : Int} {k : Nat} : (am_kd Ln (k + 1)).1 ≠ 5 := by
  have key : ∀ q ∈ am_kdL, ∀ r ∈ q, r.1 ≠ 5 := by
    have : am_kdL.all (fun q => q.all fun r => decide (r.1 ≠ 5)) = true := by decide +kernel
    intro q hq r hr
    have h2 := List.all_eq_true.mp this q hq
    simpa using List.all_eq_true.mp h2 r hr
  show ((am_kdL.getD (k / 16) []).getD (k % 16) (9, 0, 0)).1 ≠ 5
  rw [List.getD_eq_getElem?_getD, List.getD_eq_getElem?_getD]
  cases hq : am_kdL[k / 16]? with
  | none => simp
  | some q =>
    simp only [Option.getD_some]
    cases hr : q[k % 16]? with
    | none => simp
    | some r => exact key q (List.mem_of_getElem? hq) r (List.mem_of_getElem? hr)
/-- a cell of a kind is one of the world's -/
theorem am_kd_cell {Ln : Int} {a t ci : Nat} {n : Int} (h : am_kd Ln a = (t, n, ci)) (h5 : t ≠ 5) (h9 : t ≠ 9) : ∃ k, a = k + 1 ∧ k < am_NC := by
  cases a with
  | zero => rw [am_kd_0] at h; cases h; exact absurd rfl h5
  | succ k => exact ⟨k, rfl, am_kd_lt (Ln := Ln) (by rw [h]; exact h9)⟩
theorem am_fld_inv {Ln : Int} {a ci k t : Nat} (h : am_fld Ln a ci k = t) (ht : t ≠ 9) : (∃ n, am_kd Ln a = (0, n, ci)) ∧ am_ft ci k = t := by
  unfold am_fld at h
  split at h
  · rename_i n c e
    split at h
    · rename_i e2
      have e3 := Nat.eq_of_beq_eq_true e2
      subst e3
      exact ⟨⟨n, e⟩, h⟩
    · exact absurd h.symm ht
  · exact absurd h.symm ht
theorem am_ft_at {ci k t : Nat} (h : am_ft ci k = t) (ht : t ≠ 9) : (am_ftL.getD ci [])[k]? = some t := by
  unfold am_ft at h
  rw [List.getD_eq_getElem?_getD] at h
  cases hq : (am_ftL.getD ci [])[k]? with
  | none => rw [hq] at h; exact absurd h.symm ht
  | some v => rw [hq] at h; rw [← h]; rfl
theorem am_fv_up {ad : Nat → Nat} {σ : AS} {a y t : Nat} {v : Int} {l : List Nat} (h : l[y]? = some t) (ht : t ≠ 2) : am_fv ad (am_up σ a (y : Int) v) a 0 l = (am_fv ad σ a 0 l).set y (.int (Int32.ofInt v)) := by
  apply List.ext_getElem?
  intro j
  have hy := (List.getElem?_eq_some_iff.mp h).1
  rw [am_fv_get, List.getElem?_set]
  by_cases e : y = j
  · subst e
    rw [if_pos rfl, if_pos (by rw [am_fv_len]; exact hy), h]
    simp only [Option.map_some]
    unfold am_fe
    split
    · exact absurd rfl ht
    · rw [am_up_eq, if_pos (by simp)]
  · rw [if_neg e, am_fv_get]
    cases l[j]? with
    | none => rfl
    | some u =>
      simp only [Option.map_some]
      unfold am_fe
      split
      · rfl
      · rw [am_up_eq, if_neg (by omega)]
section REL
variable {Ln : Int} {b base : Nat} {D : va_G} {cA : Nat → ClassId} {xs : Nat → Int32} {σ : AS} {H H1 : Heap}
theorem am_rel_i {a t : Nat} {n : Int} {ci : Nat} (h : am_rel Ln b base D cA xs σ H) (hk : am_kd Ln a = (t, n, ci)) (ht : t ≠ 2) (i : Int) : in32 (σ a i) := by
  have h2 := h.2.1 a i
  rw [hk] at h2
  revert h2
  match t, ht with
  | 0, _ => exact id
  | 1, _ => exact id
  | 2, ht => exact absurd rfl ht
  | t + 3, _ => exact id
theorem am_rel_l {a : Nat} {n : Int} {ci : Nat} (h : am_rel Ln b base D cA xs σ H) (hk : am_kd Ln a = (2, n, ci)) (i : Int) : in64 (σ a i) := by
  have h2 := h.2.1 a i
  rw [hk] at h2
  exact h2
theorem am_rel_up {k : Nat} {i v : Int} {t : Nat} {n : Int} {ci : Nat} (h : am_rel Ln b base D cA xs σ H) (hk : am_kd Ln (k + 1) = (t, n, ci)) (hv : (t = 2 → in64 v) ∧ (t ≠ 2 → in32 v))
    (hP : va_P D am_cls ((am_ws Ln b base cA σ).set k (base + k, am_cell Ln (am_ad b base) cA (am_up σ (k + 1) i v) (k + 1))) H1) : am_rel Ln b base D cA xs (am_up σ (k + 1) i v) H1 := by
  refine ⟨?_, ?_, ?_⟩
  · rw [am_ws_set (σ := σ) (k := k) (fun a ha => am_up_ne ha)]
    exact hP
  · intro a j
    by_cases e : a = k + 1
    · subst e
      have h2 := h.2.1 (k + 1) j
      rw [hk] at h2 ⊢
      rw [am_up_eq]
      by_cases ej : j = i
      · rw [if_pos ej]
        by_cases e2 : t = 2
        · subst e2; exact hv.1 rfl
        · revert h2
          match t, e2 with
          | 0, _ => exact fun _ => hv.2 (by decide)
          | 1, _ => exact fun _ => hv.2 (by decide)
          | 2, e2 => exact absurd rfl e2
          | t + 3, _ => exact fun _ => hv.2 (by omega)
      · rw [if_neg ej]
        exact h2
    · rw [am_up_ne e]
      exact h.2.1 a j
  · intro j hj
    rw [am_up_ne (by omega)]
    exact h.2.2 j hj
end REL
theorem am_upd_i {σ : AS} {a : Nat} {i v : Int} (h0 : 0 ≤ i) (hi : in32 i) : (fun j : Nat => Int32.ofInt (am_up σ a i v a j)) = upd (fun j : Nat => Int32.ofInt (σ a j)) (Int32.ofInt i).toNatClampNeg (Int32.ofInt v) := by
  funext j
  rw [clamp_i h0 hi, am_up_eq]
  unfold upd
  by_cases e : (j : Int) = i
  · rw [if_pos e, if_pos (by omega)]
  · rw [if_neg e, if_neg (by omega)]
theorem am_upd_l {σ : AS} {a : Nat} {i v : Int} (h0 : 0 ≤ i) (hi : in32 i) : (fun j : Nat => Int64.ofInt (am_up σ a i v a j)) = vp_updL (fun j : Nat => Int64.ofInt (σ a j)) (Int32.ofInt i).toNatClampNeg (Int64.ofInt v) := by
  funext j
  rw [clamp_i h0 hi, am_up_eq]
  unfold vp_updL
  by_cases e : (j : Int) = i
  · rw [if_pos e, if_pos (by omega)]
  · rw [if_neg e, if_neg (by omega)]
theorem am_kd_n {Ln : Int} {a t ci : Nat} {n : Int} (h0 : 0 ≤ Ln) (h4 : Ln ≤ 4096) (h : am_kd Ln a = (t, n, ci)) : 0 ≤ n ∧ n ≤ 14000 := by
  have := am_kd_len (a := a) h0 h4
  rw [h] at this
  exact this
theorem am_cats {ad : Nat → Nat} : ∀ {r : List AV}, r.length ≤ 4 → ((r.map (am_c ad)).map fun v => v.category).sum ≤ 8 := by
  have key : ∀ (r : List AV), ((r.map (am_c ad)).map fun v => v.category).sum ≤ 2 * r.length := by
    intro r
    induction r with
    | nil => exact Nat.le_refl _
    | cons v r ih =>
      rw [List.map_cons, List.map_cons, List.sum_cons, List.length_cons]
      rcases lv_cat (am_c ad v) with e | e <;> rw [e] <;> omega
  intro r h
  have := key r
  omega
theorem am_ofInt_toInt (x : Int32) : Int32.ofInt x.toInt = x := Int32.ofInt_toInt x
theorem am_len_i {n : Int} (h0 : 0 ≤ n) : Int32.ofNat n.toNat = Int32.ofInt n := by
  obtain ⟨k, rfl⟩ := Int.eq_ofNat_of_zero_le h0
  simp [Int32.ofNat, Int32.ofInt]
  try rfl
theorem am_kd_big {Ln : Int} {a t ci : Nat} {n : Int} (h5 : 5 < t) (h9 : t ≠ 9) : ¬ am_kd Ln a = (t, n, ci) := by
  intro h
  cases a with
  | zero => rw [am_kd_0] at h; cases h; omega
  | succ k =>
    have key : ∀ q ∈ am_kdL, ∀ r ∈ q, r.1 ≤ 5 := by
      have : am_kdL.all (fun q => q.all fun r => decide (r.1 ≤ 5)) = true := by decide +kernel
      intro q hq r hr
      have h2 := List.all_eq_true.mp this q hq
      simpa using List.all_eq_true.mp h2 r hr
    have e : (am_kdL.getD (k / 16) []).getD (k % 16) (9, 0, 0) = (t, n, ci) := h
    rw [List.getD_eq_getElem?_getD, List.getD_eq_getElem?_getD] at e
    cases hq : am_kdL[k / 16]? with
    | none => rw [hq] at e; simp at e; omega
    | some q =>
      rw [hq] at e
      simp only [Option.getD_some] at e
      cases hr : q[k % 16]? with
      | none => rw [hr] at e; simp at e; omega
      | some r =>
        rw [hr] at e
        simp only [Option.getD_some] at e
        have := key q (List.mem_of_getElem? hq) r (List.mem_of_getElem? hr)
        rw [e] at this
        exact absurd this (by show ¬ t ≤ 5; omega)
theorem am_rel_cpy {Ln : Int} {b base : Nat} {D : va_G} {cA : Nat → ClassId} {xs : Nat → Int32} {σ : AS} {H H1 : Heap} {k0 k1 c0 c1 : Nat} {n0 n1 sp dp n : Int} (h : am_rel Ln b base D cA xs σ H) (hkd0 : am_kd Ln (k0 + 1) = (1, n0, c0)) (hkd1 : am_kd Ln (k1 + 1) = (1, n1, c1)) (h1 : 0 ≤ sp) (h2 : 0 ≤ dp) (h3 : 0 ≤ n)
    (hP : va_P D am_cls ((am_ws Ln b base cA σ).set k1 (base + k1, .inl (cA 1, n1.toNat, .inl (va_cpy (fun j : Nat => Int32.ofInt (σ (k0 + 1) j)) (fun j : Nat => Int32.ofInt (σ (k1 + 1) j)) sp.toNat dp.toNat n.toNat)))) H1) : am_rel Ln b base D cA xs (am_cpy σ (k0 + 1) (k1 + 1) sp dp n) H1 := by
  refine ⟨?_, ?_, ?_⟩
  · rw [am_ws_set (σ := σ) (k := k1) (fun a ha => am_cpy_ne ha)]
    have hcell : am_cell Ln (am_ad b base) cA (am_cpy σ (k0 + 1) (k1 + 1) sp dp n) (k1 + 1) = .inl (cA 1, n1.toNat, .inl (fun j => Int32.ofInt (am_cpy σ (k0 + 1) (k1 + 1) sp dp n (k1 + 1) j))) := by unfold am_cell; rw [hkd1] <;> rfl
    rw [hcell]
    have e : (fun j : Nat => Int32.ofInt (am_cpy σ (k0 + 1) (k1 + 1) sp dp n (k1 + 1) j)) = va_cpy (fun j : Nat => Int32.ofInt (σ (k0 + 1) j)) (fun j : Nat => Int32.ofInt (σ (k1 + 1) j)) sp.toNat dp.toNat n.toNat := by
      funext j
      rw [am_cpy_eq]
      unfold va_cpy
      by_cases q : dp.toNat ≤ j ∧ j < dp.toNat + n.toNat
      · rw [if_pos q, if_pos (by omega), show sp + ((j : Int) - dp) = ((sp.toNat + (j - dp.toNat) : Nat) : Int) by omega]
      · rw [if_neg q, if_neg (by omega)]
    rw [e]
    exact hP
  · intro a j
    by_cases e : a = k1 + 1
    · subst e
      rw [hkd1]
      show in32 _
      rw [am_cpy_eq]
      split
      · exact am_rel_i h hkd0 (by decide) _
      · exact am_rel_i h hkd1 (by decide) _
    · rw [am_cpy_ne e]
      exact h.2.1 a j
  · intro j hj
    rw [am_cpy_ne (by omega)]
    exact h.2.2 j hj
