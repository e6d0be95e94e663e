/-! rows in their order -/
def p5 : Nat → Int
  | 0 => 1
  | n + 1 => p5 n * 5
theorem p5_pos : ∀ n : Nat, 0 < p5 n
  | 0 => by decide
  | n + 1 => by have := p5_pos n; rw [p5]; omega
theorem p5_le {n : Nat} (h : n ≤ 4) : p5 n ≤ 625 := by
  have : n = 0 ∨ n = 1 ∨ n = 2 ∨ n = 3 ∨ n = 4 := by omega
  rcases this with rfl | rfl | rfl | rfl | rfl <;> decide
/-- the place of a row among all rows, in their order -/
def rv : Nat → Int → Int
  | 0, _ => 0
  | c + 1, r => r % 5 * p5 c + rv c (r / 5)
theorem rv_rg : ∀ (c : Nat) (r : Int), 0 ≤ rv c r ∧ rv c r < p5 c
  | 0, r => by rw [rv, p5]; omega
  | c + 1, r => by
    have h1 := rv_rg c (r / 5)
    have h2 := p5_pos c
    have h3 : 0 ≤ r % 5 * p5 c := Int.mul_nonneg (by omega) (by omega)
    have h4 : r % 5 * p5 c ≤ 4 * p5 c := Int.mul_le_mul_of_nonneg_right (by omega) (by omega)
    rw [rv, p5]
    omega
theorem rv_lt {c : Nat} {x y : Int} : rv (c + 1) x < rv (c + 1) y ↔ (x % 5 < y % 5 ∨ (x % 5 = y % 5 ∧ rv c (x / 5) < rv c (y / 5))) := by
  have hx := rv_rg c (x / 5)
  have hy := rv_rg c (y / 5)
  have hp := p5_pos c
  rw [rv, rv]
  by_cases e : x % 5 = y % 5
  · rw [e]
    constructor
    · intro h; exact Or.inr ⟨rfl, by omega⟩
    · rintro (h | ⟨-, h⟩) <;> omega
  · by_cases e2 : x % 5 < y % 5
    · have : (x % 5 + 1) * p5 c ≤ y % 5 * p5 c := Int.mul_le_mul_of_nonneg_right (by omega) (by omega)
      rw [Int.add_mul, Int.one_mul] at this
      exact ⟨fun _ => Or.inl e2, fun _ => by omega⟩
    · have : (y % 5 + 1) * p5 c ≤ x % 5 * p5 c := Int.mul_le_mul_of_nonneg_right (by omega) (by omega)
      rw [Int.add_mul, Int.one_mul] at this
      exact ⟨fun h => absurd h (by omega), fun h => by omega⟩
theorem rv_all : ∀ c : Fin 5, ∀ n : Fin 625, (n.val : Int) < p5 c.val → rv c.val (rv c.val (n.val : Int)) = (n.val : Int) := by decide +kernel
theorem rv_rv {c : Nat} {r : Int} (hc : c ≤ 4) (h0 : 0 ≤ r) (h1 : r < p5 c) : rv c (rv c r) = r := by
  have h2 := p5_le hc
  have := rv_all ⟨c, by omega⟩ ⟨r.toNat, by omega⟩
  dsimp only at this
  rw [show ((r.toNat : Nat) : Int) = r by omega] at this
  exact this h1
theorem dg_all : ∀ c : Fin 5, ∀ j : Fin 4, ∀ n : Fin 625, (n.val : Int) < p5 c.val → j.val < c.val → dv (rv c.val (n.val : Int)) j.val % 5 = dv (n.val : Int) (c.val - 1 - j.val) % 5 := by decide +kernel
theorem rv_dg {c : Nat} {n : Int} {j : Nat} (hc : c ≤ 4) (h0 : 0 ≤ n) (h1 : n < p5 c) (hj : j < c) : dv (rv c n) j % 5 = dv n (c - 1 - j) % 5 := by
  have h2 := p5_le hc
  have := dg_all ⟨c, by omega⟩ ⟨j, by omega⟩ ⟨n.toNat, by omega⟩
  dsimp only at this
  rw [show ((n.toNat : Nat) : Int) = n by omega] at this
  exact this h1 hj
section RO
variable {Ln : Int} {d : Nat}
theorem sp_mrows {s : AS} {c : Nat} (hc : c ≤ 4) : am_M Ln (d + 1) 227 [vR 82, vI (c : Int)] s (am_rI fun v s' => v = p5 c ∧ s' = s) := by
  have key : ∀ (m j : Nat), j + m = c → am_E Ln d 227 4 [vU, vI (c : Int), vI (p5 j), vI (j : Int)] [] s (am_rI fun v s' => v = p5 c ∧ s' = s) := by
    intro m
    induction m with
    | zero =>
      intro j hj
      obtain rfl : j = c := by omega
      exact vl_X12_rowsOf_4 _ _ _ _ ⟨fun _ => ⟨rfl, rfl⟩, fun h => absurd (by omega) h⟩
    | succ m ih =>
      intro j hj
      have h1 := p5_pos j
      have h2 := p5_le (n := j) (by omega)
      have kk := ih (j + 1) (by omega)
      rw [p5] at kk
      refine vl_X12_rowsOf_4 _ _ _ _ ⟨fun h => absurd h (by omega), fun _ => ?_⟩
      rw [w32_id (x := p5 j * 5) (by omega) (by omega), w32_id (x := (j : Int) + 1) (by omega) (by omega)]
      exact kk
  exact vm_X12_rowsOf _ _ (key c 0 (by omega))
theorem sp_crows {s : AS} {c : Nat} (h4 : s 70 4 = c) (hc : c ≤ 4) : am_M Ln (d + 1) 4 [vR 70] s (am_rI fun v s' => v = p5 c ∧ s' = s) := by
  have key : ∀ (m j : Nat), j + m = c → am_E Ln d 4 4 [vR 70, vI (p5 j), vI (j : Int)] [] s (am_rI fun v s' => v = p5 c ∧ s' = s) := by
    intro m
    induction m with
    | zero =>
      intro j hj
      obtain rfl : j = c := by omega
      exact vl_X0_rows_4 _ _ _ ⟨fun _ => ⟨rfl, rfl⟩, fun h => absurd (by omega) h⟩
    | succ m ih =>
      intro j hj
      have h1 := p5_pos j
      have h2 := p5_le (n := j) (by omega)
      have kk := ih (j + 1) (by omega)
      rw [p5] at kk
      refine vl_X0_rows_4 _ _ _ ⟨fun h => absurd h (by omega), fun _ => ?_⟩
      rw [w32_id (x := p5 j * 5) (by omega) (by omega), w32_id (x := (j : Int) + 1) (by omega) (by omega)]
      exact kk
  exact vm_X0_rows _ (key c 0 (by omega))
theorem sp_digit {s : AS} {r : Int} {k : Nat} (hr : 0 ≤ r ∧ r ≤ 100000) (hk : k ≤ 10) : am_M Ln (d + 1) 231 [vI r, vI (k : Int)] s (am_rI fun v s' => v = dv r k % 5 ∧ s' = s) := by
  have key : ∀ (m j : Nat), j + m = k → am_E Ln d 231 4 [vU, vI (k : Int), vI (dv r j), vI (j : Int)] [] s (am_rI fun v s' => v = dv r k % 5 ∧ s' = s) := by
    intro m
    induction m with
    | zero =>
      intro j hj
      obtain rfl : j = k := by omega
      exact vl_X12_digit_4 _ _ _ _ ⟨fun _ => ⟨by decide, Int.tmod_eq_emod_of_nonneg (dv_nn hr.1 j).1, rfl⟩, fun h => absurd (by omega) h⟩
    | succ m ih =>
      intro j hj
      have h1 := dv_nn hr.1 j
      have kk := ih (j + 1) (by omega)
      rw [dv] at kk
      refine vl_X12_digit_4 _ _ _ _ ⟨fun h => absurd h (by omega), fun _ => ⟨by decide, ?_⟩⟩
      rw [Int.tdiv_eq_ediv_of_nonneg h1.1, w32_id (x := dv r j / 5) (by omega) (by omega), w32_id (x := (j : Int) + 1) (by omega) (by omega)]
      exact kk
  exact vm_X12_digit _ _ _ (key k 0 (by omega))
theorem sp_isLess {s : AS} {a b : Int} {c : Nat} (ha : 0 ≤ a ∧ a ≤ 100000) (hb : 0 ≤ b ∧ b ≤ 100000) (hc : c ≤ 4) : am_M Ln (d + 2) 232 [vR 82, vI a, vI b, vI (c : Int)] s (am_rI fun v s' => v = (if rv c a < rv c b then 1 else 0) ∧ s' = s) := by
  have key : ∀ (m j : Nat), j + m = c → am_E Ln (d + 1) 232 3 [vU, vI a, vI b, vI (c : Int), vI (j : Int)] [] s (am_rI fun v s' => v = (if rv m (dv a j) < rv m (dv b j) then 1 else 0) ∧ s' = s) := by
    intro m
    induction m with
    | zero =>
      intro j hj
      obtain rfl : j = c := by omega
      refine vl_X12_isLess_3 _ _ _ _ _ ⟨fun _ => ⟨am_b0, ?_, rfl⟩, fun h => absurd (by omega) h⟩
      rw [rv, rv, if_neg (by decide)]
    | succ m ih =>
      intro j hj
      have kk := ih (j + 1) (by omega)
      rw [dv, dv] at kk
      refine vl_X12_isLess_3 _ _ _ _ _ ⟨fun h => absurd h (by omega), fun _ => cI (sp_digit ha (by omega)) ?_⟩
      rintro r2 s1 ⟨rfl, rfl⟩
      refine cI (sp_digit hb (by omega)) ?_
      rintro r4 s3 ⟨rfl, rfl⟩
      refine ⟨fun e => ?_, fun e => cI (sp_digit ha (by omega)) ?_⟩
      · rw [w32_id (x := (j : Int) + 1) (by omega) (by omega)]
        have : rv (m + 1) (dv a j) < rv (m + 1) (dv b j) ↔ rv m (dv a j / 5) < rv m (dv b j / 5) := by
          rw [rv_lt]
          exact ⟨fun h => h.elim (fun z => absurd e (by omega)) (fun z => z.2), fun h => Or.inr ⟨e, h⟩⟩
        rw [ifc this]
        exact kk
      · rintro r6 s5 ⟨rfl, rfl⟩
        refine cI (sp_digit hb (by omega)) ?_
        rintro r8 s7 ⟨rfl, rfl⟩
        refine ⟨fun h => ⟨am_b0, ?_, rfl⟩, fun h => ⟨am_b1, ?_, rfl⟩⟩
        · rw [if_neg (fun z => (rv_lt.mp z).elim (fun y => by omega) (fun y => e y.1))]
        · rw [if_pos (rv_lt.mpr (Or.inl (by omega)))]
  exact vm_X12_isLess _ _ _ _ (key c 0 (by omega))
theorem sp_unlaid {s : AS} : am_M Ln (d + 1) 229 [vR 82] s (am_rV fun s' => ∃ f, s' = zc s 121 f ∧ ∀ x : Int, 0 ≤ x → x < 10 → f x = -1) := by
  have key : ∀ (m j : Nat) (f : Int → Int), j + m = 10 → (∀ x : Int, 0 ≤ x → x < j → f x = -1) → am_E Ln d 229 2 [vR 82, vI (j : Int)] [] (zc s 121 f) (am_rV fun s' => ∃ f, s' = zc s 121 f ∧ ∀ x : Int, 0 ≤ x → x < 10 → f x = -1) := by
    intro m
    induction m with
    | zero =>
      intro j f hj hf
      obtain rfl : j = 10 := by omega
      exact vl_X12_unlaid_2 _ _ ⟨fun _ => ⟨f, rfl, hf⟩, fun h => absurd (by omega) h⟩
    | succ m ih =>
      intro j f hj hf
      refine vl_X12_unlaid_2 _ _ ⟨fun h => absurd h (by omega), fun _ => ⟨by omega, ?_⟩⟩
      rw [w32_id (x := (j : Int) + 1) (by omega) (by omega), up_zc, zc_eq, zc_zc]
      refine ih (j + 1) _ (by omega) (fun x a b => ?_)
      rw [fu_app]
      by_cases e : x = j
      · rw [if_pos e]
      · rw [if_neg e]; exact hf x a (by omega)
  have k0 := key 10 0 (s 121) (by omega) (fun x a b => absurd b (by omega))
  rw [zc_self] at k0
  exact vm_X12_unlaid _ k0
theorem clm_bd {H : Int → Int} {m : MS} {k o : Int} (hm : MI k m) : ∀ P : Nat, P ≤ 10 → 0 ≤ sm (clmP H m o) P ∧ sm (clmP H m o) P ≤ 100000000 * P := by
  intro P
  induction P with
  | zero => intro _; rw [sm]; omega
  | succ P ih =>
    intro hP
    have h1 := ih (by omega)
    have hp := hm.2.1 P (by omega) (by omega)
    have hpk := pof_nn (o := o) (fun x hx => Int.le_of_lt (hp.1 x hx).2.2)
    have hk2 := hm.1
    have hps := hp.2.2
    rw [sm, clmP]
    split <;> omega
theorem clm_bd2 {m : MS} {k o : Int} (ho : 0 ≤ o ∧ o < 10) (hm : MI k m) : ∀ N : Nat, N ≤ 10 → 0 ≤ sm (fun k => m.2.1 (10 * k + o)) N ∧ sm (fun k => m.2.1 (10 * k + o)) N ≤ 100000000 * N := by
  intro N
  induction N with
  | zero => intro _; rw [sm]; omega
  | succ N ih =>
    intro hN
    have h1 := ih (by omega)
    have hp := (hm.2.2.2 (10 * (N : Int) + o) (by omega) (by omega)).1
    have hk2 := hm.1
    rw [sm]
    omega
theorem sp_worthOf {C s : AS} {n P NT : Nat} {G : Int → GF} {o : Int} {fo : Int → Int} (hI : INV C n G) (hs : Fr wkX wkF C s) (hfo : ∀ p : Int, 0 ≤ p → p < 10 → s 121 p = fo p ∧ -1 ≤ fo p ∧ fo p ≤ 4) (ho : 0 ≤ o ∧ o < 10) (hP : C 4 2 = P) (hT : C 1 12 = NT) :
    am_M Ln (d + 10) 230 [vR 82, vI o] s (am_rI fun v s' => v = clm C (mpl C (findF C G) (C 1 10) fo (lst C (C 1 10) (C 1 10) (C 7 11)) m0) o P NT ∧ Fr pmX pmF s s') := by
  obtain ⟨k, hk, hm, hmn⟩ := mAll_ok (F := findF C G) (dd := C 1 10) (t := C 1 10) (fo := fo) hI.1
  have hB := hI.1.1
  have hPb := hI.2.2.2.1.2.1
  have hTb := hI.2.2.2.1.2.2.1
  obtain ⟨m, hmm⟩ : ∃ m, m = mpl C (findF C G) (C 1 10) fo (lst C (C 1 10) (C 1 10) (C 7 11)) m0 := ⟨_, rfl⟩
  rw [← hmm] at hm ⊢
  have e2 : s 82 2 = C 1 10 := by rw [hs.fld 82 2 (by decide)]; exact hB.2.2.2.1
  refine vm_X12_worthOf _ _ ?_
  rw [e2]
  refine cV (sp_mplays hI.1 (ruM_find hI.1.1 hI.2.2.1 hI.1.2.1 hI.1.2.2.1) hs hfo) ?_
  rintro s1 ⟨x1, x2⟩
  rw [← hmm] at x1
  have hs1 : Fr wkX wkF C s1 := hs.tr (x2.mo (by decide) (by decide))
  have e4 : s1 82 4 = P := by rw [hs1.fld 82 4 (by decide)]; exact (hB.2.2.2.2.2.1).trans hP
  have e5 : s1 82 5 = NT := by rw [hs1.fld 82 5 (by decide)]; exact (hB.2.2.2.2.2.2.1).trans hT
  have e84 : s1 84 = C 5 := by rw [hs1.cell 84 (by decide)]; exact hB.1.1
  have hcP := clm_bd (H := C 5) (o := o) hm P (by omega)
  have l2 : ∀ (q j : Nat), j + q = NT → am_E Ln (d + 9) 230 55 [vR 82, vI o, vI (sm (clmP (C 5) m o) P + sm (fun k => m.2.1 (10 * k + o)) j), vI (j : Int)] [] s1 (am_rI fun v s' => v = clm C m o P NT ∧ Fr pmX pmF s s') := by
    intro q
    induction q with
    | zero =>
      intro j hj
      obtain rfl : j = NT := by omega
      exact vl_X12_worthOf_55 _ _ _ _ ⟨fun _ => ⟨rfl, x2⟩, fun h => absurd (by omega) h⟩
    | succ q ih =>
      intro j hj
      have kk := ih (j + 1) (by omega)
      rw [sm] at kk
      have b1 := clm_bd2 ho hm j (by omega)
      have b2 := (hm.2.2.2 (10 * (j : Int) + o) (by omega) (by omega)).1
      have hk2 := hm.1
      refine vl_X12_worthOf_55 _ _ _ _ ⟨fun h => absurd h (by omega), fun _ => ?_⟩
      rw [w32_id (x := 10 * (j : Int)) (by omega) (by omega), w32_id (x := 10 * (j : Int) + o) (by omega) (by omega), x1.2.1 (10 * (j : Int) + o) (by omega) (by omega), w32_id (x := (j : Int) + 1) (by omega) (by omega), w32_id (x := sm (clmP (C 5) m o) P + sm (fun k => m.2.1 (10 * k + o)) j + m.2.1 (10 * (j : Int) + o)) (by omega) (by omega), Int.add_assoc]
      exact ⟨by omega, kk⟩
  have l1 : ∀ (q j : Nat), j + q = P → am_E Ln (d + 9) 230 16 [vR 82, vI o, vI (sm (clmP (C 5) m o) j), vI (j : Int)] [] s1 (am_rI fun v s' => v = clm C m o P NT ∧ Fr pmX pmF s s') := by
    intro q
    induction q with
    | zero =>
      intro j hj
      obtain rfl : j = P := by omega
      have kk := l2 NT 0 (by omega)
      rw [sm.eq_1, Int.add_zero] at kk
      exact vl_X12_worthOf_16 _ _ _ _ ⟨fun _ => kk, fun h => absurd (by omega) h⟩
    | succ q ih =>
      intro j hj
      have kk := ih (j + 1) (by omega)
      have b1 := clm_bd (H := C 5) (o := o) hm j (by omega)
      have b2 := clm_bd (H := C 5) (o := o) hm (j + 1) (by omega)
      rw [sm] at kk b2
      refine vl_X12_worthOf_16 _ _ _ _ ?_
      rw [e4, e84, w32_id (x := (j : Int) + 1) (by omega) (by omega)]
      refine ⟨fun h => absurd h (by omega), fun _ => ⟨by omega, fun e => ?_, fun e => cI (sp_of ⟨by omega, by omega⟩ (RM_T x1 hm)) ?_⟩⟩
      · have ev : clmP (C 5) m o j = 0 := by rw [clmP, if_pos e]
        rw [ev] at kk
        rw [w32_id (x := sm (clmP (C 5) m o) j + 0) (by omega) (by omega)]
        exact kk
      · rintro v s2 ⟨y1, rfl⟩
        rw [(x1.1 j (by omega) (by omega)).1] at y1
        have ev : v = clmP (C 5) m o j := by rw [y1, clmP, if_neg e]
        rw [ev, w32_id (x := sm (clmP (C 5) m o) j + clmP (C 5) m o j) (by omega) (by omega)]
        exact kk
  have k0 := l1 P 0 (by omega)
  rw [sm.eq_1] at k0
  exact k0
end RO
