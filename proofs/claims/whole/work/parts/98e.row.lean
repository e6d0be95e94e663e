/-! rows of ways: what both sides say of a row -/
def dv (r : Int) : Nat → Int
  | 0 => r
  | k + 1 => dv r k / 5
theorem dv_nn {r : Int} (h : 0 ≤ r) : ∀ k : Nat, 0 ≤ dv r k ∧ dv r k ≤ r
  | 0 => ⟨h, Int.le_refl _⟩
  | k + 1 => by
    have := dv_nn h k
    rw [dv]
    omega
/-- what the row r forces -/
def foR (w : Int → Int) (r : Int) (p : Int) : Int := if w p = 0 then -1 else dv r (cn0 w p.toNat).toNat % 5
theorem foR_rg {w : Int → Int} {r p : Int} : -1 ≤ foR w r p ∧ foR w r p ≤ 4 := by
  unfold foR
  split <;> omega
/-- the row is lawful up to purse P -/
def LWp (C : AS) (fo : Int → Int) (p : Int) : Prop := bAnd (bShr (C 71 p) (fo p)) 1 = 1 ∧ ∀ q : Int, 0 ≤ q → q < p → C 71 q ≠ 0 → ¬ brd C (C 70 6) (5 * q + fo q) (5 * p + fo p) = true
def LW (C : AS) (fo : Int → Int) (P : Int) : Prop := ∀ p : Int, 0 ≤ p → p < P → C 71 p ≠ 0 → LWp C fo p
theorem LW_succ {C : AS} {fo : Int → Int} {p : Nat} : LW C fo ((p + 1 : Nat) : Int) ↔ LW C fo p ∧ (C 71 p ≠ 0 → LWp C fo p) := by
  constructor
  · exact fun h => ⟨fun q a b => h q a (by omega), fun z => h p (by omega) (by omega) z⟩
  · rintro ⟨h1, h2⟩ q a b z
    by_cases e : q = p
    · rw [e] at z ⊢; exact h2 z
    · exact h1 q a (by omega) z
/-- what the person gets at the end -/
def clmP (H : Int → Int) (m : MS) (o : Int) : Int → Int := fun p => if H p = o then 0 else pof o (m.1 p)
def clm (C : AS) (m : MS) (o : Int) (P NT : Nat) : Int := sm (clmP (C 5) m o) P + sm (fun k => m.2.1 (10 * k + o)) NT
section RW
variable {Ln : Int} {d : Nat} {C : AS} {n : Nat} {G : Int → GF}
theorem sp_has {a b : Int} {s : AS} : am_M Ln (d + 1) 135 [vI a, vI b] s (am_rI fun v s' => v = (if bAnd (bShr a b) 1 = 1 then 1 else 0) ∧ s' = s) :=
  vm_X12_has _ _ _ ⟨fun h => ⟨am_b1, by rw [if_pos h], rfl⟩, fun h => ⟨am_b0, by rw [if_neg h], rfl⟩⟩
theorem lp_laid84 (hI : INV C n G) {s : AS} (hs : Fr wkX wkF C s) {x2 : Int} {p : Nat} {fo : Int → Int} (hp : (p : Int) < 10) (hfo : ∀ q : Int, 0 ≤ q → q ≤ p → s 121 q = fo q) (hf5 : ∀ q : Int, 0 ≤ q → q ≤ p → C 71 q ≠ 0 → 0 ≤ fo q ∧ fo q < 5) (hpw : C 71 p ≠ 0) {Q : Option AV → AS → Prop} : ∀ (m q : Nat) (x3 : Int), q + m = p → am_b x3 →
    (∀ x3', am_b x3' → (x3' ≠ 0 ↔ x3 ≠ 0 ∧ ∀ q' : Int, q ≤ q' → q' < p → C 71 q' ≠ 0 → ¬ brd C (C 70 6) (5 * q' + fo q') (5 * p + fo p) = true) → am_E Ln (d + 1) 228 7 [vR 82, vU, vI x2, vI x3', vI ((p : Int) + 1), vU] [] s Q) →
    am_E Ln (d + 1) 228 84 [vR 82, vU, vI x2, vI x3, vI (p : Int), vI (q : Int)] [] s Q := by
  obtain ⟨h1, h2, h3, h4, h5, h6, h7, h8⟩ := id hI
  have e129 : s 129 = C 71 := by rw [hs.cell 129 (by decide), h6.1]
  have e10 : s 82 10 = C 70 6 := by rw [hs.fld 82 10 (by decide)]; exact h1.1.2.2.2.2.2.2.2.2.2.2.2
  have hbr : ∀ x y : Int, brd s (C 70 6) x y = brd C (C 70 6) x y := by
    intro x y
    unfold brd
    rw [hs.cell 130 (by decide), hs.cell 131 (by decide), hs.cell 132 (by decide), hs.cell 133 (by decide)]
  intro m
  induction m with
  | zero =>
    intro q x3 hq hb hQ
    obtain rfl : q = p := by omega
    refine vl_X12_laid_84 _ _ _ _ _ ?_
    rw [w32_id (x := (q : Int) + 1) (by omega) (by omega)]
    exact ⟨fun _ => hQ x3 hb ⟨fun z => ⟨z, fun q' a b => absurd b (by omega)⟩, fun z => z.1⟩, fun h => absurd (by omega) h⟩
  | succ m ih =>
    intro q x3 hq hb hQ
    refine vl_X12_laid_84 _ _ _ _ _ ?_
    rw [w32_id (x := (q : Int) + 1) (by omega) (by omega), e129, hfo q (by omega) (by omega), hfo p (by omega) (by omega)]
    refine ⟨fun h => absurd h (by omega), fun _ => ⟨fun z => ih (q + 1) 0 (by omega) am_b0 (fun x3' b1 b2 => hQ x3' b1 ⟨fun y => absurd rfl (b2.mp y).1, fun y => absurd z y.1⟩), fun z => ⟨by omega, fun e => ?_, fun e => ⟨by omega, by omega, ?_⟩⟩⟩⟩
    · refine ih (q + 1) 1 (by omega) am_b1 (fun x3' b1 b2 => hQ x3' b1 ⟨fun y => ⟨z, fun q' a1 a2 a3 => ?_⟩, fun y => b2.mpr ⟨by decide, fun q' a1 a2 a3 => y.2 q' (by omega) a2 a3⟩⟩)
      by_cases eq : q' = q
      · rw [eq] at a3; exact absurd e a3
      · exact (b2.mp y).2 q' (by omega) a2 a3
    · refine cG (sp_mBarred e10 (by have := h7.1; omega) (fun i a b => by rw [hs.cell 131 (by decide), hs.cell 133 (by decide)]; have := h7.2.1 i a b; omega) (hf5 q (by omega) (by omega) e) (hf5 p (by omega) (by omega) hpw)) (fun hnb => ?_) (fun hy => ?_)
      · rw [hbr] at hnb
        refine ih (q + 1) 1 (by omega) am_b1 (fun x3' b1 b2 => hQ x3' b1 ⟨fun y => ⟨z, fun q' a1 a2 a3 => ?_⟩, fun y => b2.mpr ⟨by decide, fun q' a1 a2 a3 => y.2 q' (by omega) a2 a3⟩⟩)
        by_cases eq : q' = q
        · rw [eq]; exact hnb
        · exact (b2.mp y).2 q' (by omega) a2 a3
      · rw [hbr] at hy
        exact ih (q + 1) 0 (by omega) am_b0 (fun x3' b1 b2 => hQ x3' b1 ⟨fun y => absurd rfl (b2.mp y).1, fun y => absurd hy (y.2 q (by omega) (by omega) e)⟩)
theorem lp_laid (hI : INV C n G) {s0 : AS} (hs0 : Fr wkX wkF C s0) {r : Int} (hr : 0 ≤ r ∧ r ≤ 100000) {P : Nat} (hP : C 4 2 = P) : ∀ (m p : Nat) (x3 : Int) (f : Int → Int), p + m = P → am_b x3 → (x3 ≠ 0 ↔ LW C (foR (C 71) r) p) → (∀ x : Int, 0 ≤ x → x < p → f x = foR (C 71) r x) → (∀ x : Int, P ≤ x → x < 10 → f x = -1) →
    am_E Ln (d + 1) 228 7 [vR 82, vU, vI (dv r (cn0 (C 71) p).toNat), vI x3, vI (p : Int), vU] [] (zc s0 121 f) (am_rI fun v s' => am_b v ∧ (v ≠ 0 ↔ LW C (foR (C 71) r) P) ∧ ∃ f', s' = zc s0 121 f' ∧ ∀ x : Int, 0 ≤ x → x < 10 → f' x = foR (C 71) r x) := by
  obtain ⟨h1, h2, h3, h4, h5, h6, h7, h8⟩ := id hI
  have hP10 := h4.2.1
  intro m
  induction m with
  | zero =>
    intro p x3 f hp hb hx hf hf2
    obtain rfl : p = P := by omega
    refine vl_X12_laid_7 _ _ _ _ ⟨fun _ => ⟨hb, hb, hx, f, rfl, fun x a b => ?_⟩, fun h => absurd ?_ h⟩
    · by_cases e : x < p
      · exact hf x a e
      · rw [hf2 x (by omega) b, foR, if_pos ((h6.2.1 x a b).2 (by omega))]
    · rw [zc_ne (by decide), hs0.fld 82 4 (by decide), h1.1.2.2.2.2.2.1, hP]; omega
  | succ m ih =>
    intro p x3 f hp hb hx hf hf2
    have hdv := dv_nn hr.1 (cn0 (C 71) p).toNat
    have cb := cn0_bd (w := C 71) p
    have e129 : ∀ g : Int → Int, zc s0 121 g 129 = C 71 := fun g => by rw [zc_ne (by decide), hs0.cell 129 (by decide), h6.1]
    have rp : 0 ≤ (p : Int) ∧ (p : Int) < 10 := by omega
    have etd : Int.tdiv (dv r (cn0 (C 71) p).toNat) 5 = dv r (cn0 (C 71) p).toNat / 5 := Int.tdiv_eq_ediv_of_nonneg hdv.1
    have etm : Int.tmod (dv r (cn0 (C 71) p).toNat) 5 = dv r (cn0 (C 71) p).toNat % 5 := Int.tmod_eq_emod_of_nonneg hdv.1
    refine vl_X12_laid_7 _ _ _ _ ⟨fun h => absurd h ?_, fun _ => ?_⟩
    · rw [zc_ne (by decide), hs0.fld 82 4 (by decide), h1.1.2.2.2.2.2.1, hP]; omega
    · rw [e129, w32_id (x := (p : Int) + 1) (by omega) (by omega), up_zc, zc_eq, zc_zc, up_zc, zc_eq, zc_zc, etd, etm, w32_id (x := dv r (cn0 (C 71) p).toNat / 5) (by omega) (by omega), zc_eq]
      refine ⟨rp, rp, fun e => ?_, fun e => ?_⟩
      · have key := ih (p + 1) x3 (fu f p (-1)) (by omega) hb (by rw [LW_succ]; exact hx.trans ⟨fun z => ⟨z, fun y => absurd e y⟩, fun z => z.1⟩) (fun x a b => by
          rw [fu_app]
          by_cases ex : x = p
          · rw [ex, if_pos rfl, foR, if_pos e]
          · rw [if_neg ex]; exact hf x a (by omega)) (fun x a b => by rw [fu_ne (by omega)]; exact hf2 x a b)
        rw [cn0, if_pos e, Int.add_zero] at key
        exact key
      · obtain ⟨g, hg⟩ : ∃ g, g = fu (fu f p (-1)) p (dv r (cn0 (C 71) p).toNat % 5) := ⟨_, rfl⟩
        have gp : g p = dv r (cn0 (C 71) p).toNat % 5 := by rw [hg, fu_eq]
        have efo : foR (C 71) r p = dv r (cn0 (C 71) p).toNat % 5 := by rw [foR, if_neg e, show ((p : Int)).toNat = p by omega]
        have gl : ∀ x : Int, 0 ≤ x → x ≤ p → g x = foR (C 71) r x := by
          intro x a b
          by_cases ex : x = p
          · rw [ex, gp, efo]
          · rw [hg, fu_ne ex, fu_ne ex]; exact hf x a (by omega)
        have hf5 : ∀ q : Int, 0 ≤ q → q ≤ p → C 71 q ≠ 0 → 0 ≤ foR (C 71) r q ∧ foR (C 71) r q < 5 := by
          intro q a b c
          rw [foR, if_neg c]
          omega
        have hsg : Fr wkX wkF C (zc s0 121 g) := hs0.cl (by decide)
        have nxt : ∀ x3', am_b x3' → (x3' ≠ 0 ↔ LW C (foR (C 71) r) p ∧ LWp C (foR (C 71) r) p) → am_E Ln (d + 1) 228 7 [vR 82, vU, vI (dv r (cn0 (C 71) p).toNat / 5), vI x3', vI ((p : Int) + 1), vU] [] (zc s0 121 g) (am_rI fun v s' => am_b v ∧ (v ≠ 0 ↔ LW C (foR (C 71) r) P) ∧ ∃ f', s' = zc s0 121 f' ∧ ∀ x : Int, 0 ≤ x → x < 10 → f' x = foR (C 71) r x) := by
          intro x3' b1 b2
          have key := ih (p + 1) x3' g (by omega) b1 (by rw [LW_succ]; exact b2.trans ⟨fun z => ⟨z.1, fun _ => z.2⟩, fun z => ⟨z.1, z.2 e⟩⟩) (fun x a b => gl x a (by omega)) (fun x a b => by rw [hg, fu_ne (by omega), fu_ne (by omega)]; exact hf2 x a b)
          rw [cn0, if_neg e, show (cn0 (C 71) p + 1).toNat = (cn0 (C 71) p).toNat + 1 by omega, dv] at key
          exact key
        rw [← hg]
        have k84 : ∀ x3' : Int, am_b x3' → (x3' ≠ 0 ↔ LW C (foR (C 71) r) p ∧ bAnd (bShr (C 71 p) (foR (C 71) r p)) 1 = 1) → am_E Ln (d + 1) 228 84 [vR 82, vU, vI (dv r (cn0 (C 71) p).toNat / 5), vI x3', vI (p : Int), vI 0] [] (zc s0 121 g) (am_rI fun v s' => am_b v ∧ (v ≠ 0 ↔ LW C (foR (C 71) r) P) ∧ ∃ f', s' = zc s0 121 f' ∧ ∀ x : Int, 0 ≤ x → x < 10 → f' x = foR (C 71) r x) := by
          intro x3' b1 b2
          refine lp_laid84 hI hsg rp.2 (fo := foR (C 71) r) (fun q a b => by rw [zc_eq]; exact gl q a b) hf5 e p 0 x3' (by omega) b1 (fun x3'' c1 c2 => nxt x3'' c1 ?_)
          rw [c2, b2]
          unfold LWp
          constructor
          · rintro ⟨⟨u1, u2⟩, u3⟩
            exact ⟨u1, u2, fun q a b c => u3 q (by omega) b c⟩
          · rintro ⟨u1, u2, u3⟩
            exact ⟨⟨u1, u2⟩, fun q a b c => u3 q (by omega) b c⟩
        refine ⟨by decide, rp, by decide, fun z => k84 0 am_b0 ⟨fun y => absurd rfl y, fun y => absurd z (hx.mpr y.1)⟩, fun z => ⟨rp, rp, ?_⟩⟩
        rw [gp, ← efo]
        refine cG sp_has (fun hn => k84 0 am_b0 ⟨fun y => absurd rfl y, fun y => absurd y.2 hn⟩) (fun hy => k84 1 am_b1 ⟨fun _ => ⟨hx.mp z, hy⟩, fun _ => by decide⟩)
theorem sp_laid (hI : INV C n G) {s : AS} (hs : Fr wkX wkF C s) {r : Int} (hr : 0 ≤ r ∧ r ≤ 100000) {P : Nat} (hP : C 4 2 = P) (h121 : ∀ x : Int, P ≤ x → x < 10 → s 121 x = -1) :
    am_M Ln (d + 2) 228 [vR 82, vI r] s (am_rI fun v s' => am_b v ∧ (v ≠ 0 ↔ LW C (foR (C 71) r) P) ∧ ∃ f', s' = zc s 121 f' ∧ ∀ x : Int, 0 ≤ x → x < 10 → f' x = foR (C 71) r x) := by
  have key := lp_laid (Ln := Ln) (d := d) hI hs hr hP P 0 1 (s 121) (by omega) am_b1 ⟨fun _ q a b => absurd b (by omega), fun _ => by decide⟩ (fun x a b => absurd b (by omega)) h121
  rw [zc_self] at key
  exact vm_X12_laid _ _ key
end RW
