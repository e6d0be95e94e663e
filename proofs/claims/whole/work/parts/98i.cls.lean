/-! the class's rows -/
theorem cn0_lt {w : Int → Int} {q p : Nat} (h : q < p) (hq : w q ≠ 0) : cn0 w q < cn0 w p := by
  have key : ∀ k : Nat, cn0 w (q + 1) ≤ cn0 w (q + 1 + k) := by
    intro k
    induction k with
    | zero => exact Int.le_refl _
    | succ k ih =>
      have e : cn0 w (q + 1 + (k + 1)) = cn0 w (q + 1 + k) + (if w ((q + 1 + k : Nat) : Int) = 0 then 0 else 1) := rfl
      rw [e]
      split <;> omega
  have := key (p - (q + 1))
  rw [show q + 1 + (p - (q + 1)) = p by omega, cn0, if_neg hq] at this
  omega
/-- the open purses stand in op -/
def OPN (w op : Int → Int) (P c : Nat) : Prop := (∀ j : Int, 0 ≤ j → j < c → (0 ≤ op j ∧ op j < P) ∧ w (op j) ≠ 0 ∧ cn0 w (op j).toNat = j) ∧ ∀ p : Int, 0 ≤ p → p < P → w p ≠ 0 → op (cn0 w p.toNat) = p ∧ cn0 w p.toNat < c
def foW (w row : Int → Int) (p : Int) : Int := if w p = 0 then -1 else row (cn0 w p.toNat)
def LJ (C : AS) (op row : Int → Int) (c : Nat) (j : Int) : Prop := bAnd (bShr (C 71 (op j)) (row j)) 1 = 1 ∧ ∀ k : Int, j < k → k < c → ¬ brd C (C 70 6) (5 * op j + row j) (5 * op k + row k) = true
theorem LW_LJ {C : AS} {op row : Int → Int} {P c : Nat} (h : OPN (C 71) op P c) : LW C (foW (C 71) row) P ↔ ∀ j : Int, 0 ≤ j → j < c → LJ C op row c j := by
  obtain ⟨h1, h2⟩ := h
  have fo : ∀ j : Int, 0 ≤ j → j < c → foW (C 71) row (op j) = row j := fun j a b => by
    obtain ⟨u1, u2, u3⟩ := h1 j a b
    rw [foW, if_neg u2, u3]
  constructor
  · intro h j a b
    obtain ⟨u1, u2, u3⟩ := h1 j a b
    have hp := h (op j) u1.1 u1.2 u2
    refine ⟨by have := hp.1; rw [fo j a b] at this; exact this, fun k x y => ?_⟩
    obtain ⟨v1, v2, v3⟩ := h1 k (by omega) y
    have hlt : op j < op k := by
      by_cases e : op k < op j
      · have := cn0_lt (w := C 71) (q := (op k).toNat) (p := (op j).toNat) (by omega) (by rw [show (((op k).toNat : Nat) : Int) = op k by omega]; exact v2)
        omega
      · by_cases e2 : op j = op k
        · rw [e2] at u3; omega
        · omega
    have := (h (op k) v1.1 v1.2 v2).2 (op j) u1.1 hlt u2
    rw [fo j a b, fo k (by omega) y] at this
    exact this
  · intro h p a b e
    obtain ⟨u1, u2⟩ := h2 p a b e
    have cb := cn0_bd (w := C 71) p.toNat
    have hj := h (cn0 (C 71) p.toNat) cb.1 u2
    have fp : foW (C 71) row p = row (cn0 (C 71) p.toNat) := by rw [foW, if_neg e]
    refine ⟨by rw [fp]; have := hj.1; rw [u1] at this; exact this, fun q x y z => ?_⟩
    obtain ⟨v1, v2⟩ := h2 q x (by omega) z
    have cq := cn0_bd (w := C 71) q.toNat
    have hlt := cn0_lt (w := C 71) (q := q.toNat) (p := p.toNat) (by omega) (by rw [show ((q.toNat : Nat) : Int) = q by omega]; exact z)
    have := (h (cn0 (C 71) q.toNat) cq.1 v2).2 (cn0 (C 71) p.toNat) hlt u2
    rw [u1, v1] at this
    rw [fp, foW, if_neg z]
    exact this
section CW
variable {Ln : Int} {d : Nat} {C s : AS} {n P NT c : Nat} {G : Int → GF}
theorem lp_law39 (hI : INV C n G) (hB : BA s) (hbr : ∀ x y : Int, brd s (s 70 6) x y = brd C (C 70 6) x y) (hc : s 70 4 = c) (hc4 : c ≤ 4) (hop : OPN (C 71) (s 73) P c) (hP : P ≤ 10) (hrow : ∀ j : Int, 0 ≤ j → j < c → 0 ≤ s 74 j ∧ s 74 j < 5) {j : Int} (hj : 0 ≤ j ∧ j < c) {Q : Option AV → AS → Prop}
    (hno : ¬ (∀ k : Int, j < k → k < c → ¬ brd C (C 70 6) (5 * s 73 j + s 74 j) (5 * s 73 k + s 74 k) = true) → Q (some (vI 0)) s)
    (hyes : (∀ k : Int, j < k → k < c → ¬ brd C (C 70 6) (5 * s 73 j + s 74 j) (5 * s 73 k + s 74 k) = true) → am_E Ln (d + 1) 10 2 [vR 70, vI (j + 1), vU] [] s Q) : ∀ (m : Nat) (k : Int), k + m = c → j < k → (∀ k' : Int, j < k' → k' < k → ¬ brd C (C 70 6) (5 * s 73 j + s 74 j) (5 * s 73 k' + s 74 k') = true) →
    am_E Ln (d + 1) 10 39 [vR 70, vI j, vI k] [] s Q := by
  intro m
  induction m with
  | zero =>
    intro k hk hjk hall
    refine vl_X0_isLawful_39 _ _ _ ?_
    rw [hc, w32_id (x := j + 1) (by omega) (by omega)]
    exact ⟨fun _ => hyes (fun k' a b => hall k' a (by omega)), fun h => absurd (by omega) h⟩
  | succ m ih =>
    intro k hk hjk hall
    have o1 := (hop.1 j hj.1 hj.2).1
    have o2 := (hop.1 k (by omega) (by omega)).1
    have r1 := hrow j hj.1 hj.2
    have r2 := hrow k (by omega) (by omega)
    refine vl_X0_isLawful_39 _ _ _ ?_
    rw [hc, w32_id (x := s 73 j * 5) (by omega) (by omega), w32_id (x := s 73 j * 5 + s 74 j) (by omega) (by omega), w32_id (x := s 73 k * 5) (by omega) (by omega), w32_id (x := s 73 k * 5 + s 74 k) (by omega) (by omega), w32_id (x := k + 1) (by omega) (by omega), show s 73 j * 5 + s 74 j = 5 * s 73 j + s 74 j by omega, show s 73 k * 5 + s 74 k = 5 * s 73 k + s 74 k by omega]
    refine ⟨fun h => absurd h (by omega), fun _ => ⟨by omega, by omega, by omega, by omega, cG (sp_cBarred hB (by omega) (by omega)) (fun hn => ?_) (fun hy => ⟨am_b0, hno (fun z => ?_)⟩)⟩⟩
    · rw [hbr] at hn
      refine ih (k + 1) (by omega) (by omega) (fun k' a b => ?_)
      by_cases e : k' = k
      · rw [e]; exact hn
      · exact hall k' a (by omega)
    · rw [hbr] at hy
      exact z k hjk (by omega) hy
theorem lp_law2 (hI : INV C n G) (hB : BA s) (hbr : ∀ x y : Int, brd s (s 70 6) x y = brd C (C 70 6) x y) (h71 : s 71 = C 71) (hc : s 70 4 = c) (hc4 : c ≤ 4) (hop : OPN (C 71) (s 73) P c) (hP : P ≤ 10) (hrow : ∀ j : Int, 0 ≤ j → j < c → 0 ≤ s 74 j ∧ s 74 j < 5) : ∀ (m : Nat) (j : Int), j + m = c → 0 ≤ j → (∀ j' : Int, 0 ≤ j' → j' < j → LJ C (s 73) (s 74) c j') →
    am_E Ln (d + 1) 10 2 [vR 70, vI j, vU] [] s (am_rI fun v s' => s' = s ∧ (v ≠ 0 ↔ ∀ j : Int, 0 ≤ j → j < c → LJ C (s 73) (s 74) c j)) := by
  intro m
  induction m with
  | zero =>
    intro j hj h0 hall
    refine vl_X0_isLawful_2 _ _ ?_
    rw [hc]
    exact ⟨fun _ => ⟨am_b1, rfl, fun _ j' a b => hall j' a (by omega), fun _ => by decide⟩, fun h => absurd (by omega) h⟩
  | succ m ih =>
    intro j hj h0 hall
    have o1 := hop.1 j h0 (by omega)
    have r1 := hrow j h0 (by omega)
    have w1 := (hI.2.2.2.2.2.1.2.1 (s 73 j) (by omega) (by omega)).1
    obtain ⟨x, hx⟩ : ∃ x : Nat, C 71 (s 73 j) = x := ⟨(C 71 (s 73 j)).toNat, by omega⟩
    obtain ⟨y, hy⟩ : ∃ y : Nat, s 74 j = y := ⟨(s 74 j).toNat, by omega⟩
    have bg := bit_get (x := x) (j := y) (by omega) (by omega)
    rw [← hx, ← hy] at bg
    refine vl_X0_isLawful_2 _ _ ?_
    rw [hc, h71, w32_id (x := j + 1) (by omega) (by omega)]
    refine ⟨fun h => absurd h (by omega), fun _ => ⟨by omega, by omega, by omega, fun e => ⟨am_b0, rfl, fun z => absurd rfl z, fun z => ?_⟩, fun e => ?_⟩⟩
    · have := (z j h0 (by omega)).1
      omega
    · have eb : bAnd (bShr (C 71 (s 73 j)) (s 74 j)) 1 = 1 := by
        rw [bg] at e ⊢
        by_cases z : x.testBit y = true
        · rw [if_pos z]
        · rw [if_neg z] at e; exact absurd rfl e
      refine lp_law39 hI hB hbr hc hc4 hop hP hrow ⟨h0, by omega⟩ (fun z => ⟨rfl, fun q => absurd rfl q, fun q => absurd (q j h0 (by omega)).2 z⟩) (fun z => ?_) m (j + 1) (by omega) (by omega) (fun k' a b => absurd b (by omega))
      refine ih (j + 1) (by omega) (by omega) (fun j' a b => ?_)
      by_cases q : j' = j
      · rw [q]; exact ⟨eb, z⟩
      · exact hall j' a (by omega)
theorem sp_lawful (hI : INV C n G) (hB : BA s) (hbr : ∀ x y : Int, brd s (s 70 6) x y = brd C (C 70 6) x y) (h71 : s 71 = C 71) (hc : s 70 4 = c) (hc4 : c ≤ 4) (hop : OPN (C 71) (s 73) P c) (hP : P ≤ 10) (hrow : ∀ j : Int, 0 ≤ j → j < c → 0 ≤ s 74 j ∧ s 74 j < 5) :
    am_M Ln (d + 2) 10 [vR 70] s (am_rI fun v s' => s' = s ∧ (v ≠ 0 ↔ LW C (foW (C 71) (s 74)) P)) := by
  rw [LW_LJ hop]
  exact vm_X0_isLawful _ (lp_law2 hI hB hbr h71 hc hc4 hop hP hrow c 0 (by omega) (by omega) (fun j' a b => absurd b (by omega)))
/-- a row is spelt -/
theorem sp_spellL {r : Int} (hr : 0 ≤ r ∧ r ≤ 100000) (hc : s 70 4 = c) (hc4 : c ≤ 4) : am_M Ln (d + 1) 9 [vR 70, vI r] s (am_rV fun s' => ∃ f, s' = zc s 74 f ∧ ∀ j : Nat, j < c → f j = dv r (c - 1 - j) % 5) := by
  have key : ∀ (m k : Nat) (f : Int → Int), k + m = c → (∀ j : Nat, m ≤ j → j < c → f j = dv r (c - 1 - j) % 5) → am_E Ln d 9 9 [vR 70, vU, vI (dv r k), vI ((m : Int) - 1)] [] (zc s 74 f) (am_rV fun s' => ∃ f, s' = zc s 74 f ∧ ∀ j : Nat, j < c → f j = dv r (c - 1 - j) % 5) := by
    intro m
    induction m with
    | zero =>
      intro k f hk hf
      exact vl_X0_spellFromLast_9 _ _ _ ⟨fun _ => ⟨f, rfl, fun j a => hf j (by omega) a⟩, fun h => absurd (by omega) h⟩
    | succ m ih =>
      intro k f hk hf
      have h1 := dv_nn hr.1 k
      refine vl_X0_spellFromLast_9 _ _ _ ⟨fun h => absurd h (by omega), fun _ => ⟨by decide, by omega, by decide, ?_⟩⟩
      rw [Int.tdiv_eq_ediv_of_nonneg h1.1, Int.tmod_eq_emod_of_nonneg h1.1, w32_id (x := dv r k / 5) (by omega) (by omega), show ((m + 1 : Nat) : Int) - 1 = m by omega, show (m : Int) + -1 = (m : Int) - 1 by omega, w32_id (x := (m : Int) - 1) (by omega) (by omega), up_zc, zc_eq, zc_zc]
      have kk := ih (k + 1) (fu f m (dv r k % 5)) (by omega) (fun j a b => by
        rw [fu_app]
        by_cases e : j = m
        · rw [if_pos (by omega), e, show c - 1 - m = k by omega]
        · rw [if_neg (by omega)]; exact hf j (by omega) b)
      rw [dv] at kk
      exact kk
  have k0 := key c 0 (s 74) (by omega) (fun j a b => absurd b (by omega))
  rw [zc_self] at k0
  refine vm_X0_spellFromLast _ _ ?_
  rw [hc, w32_id (by omega) (by omega)]
  exact k0
theorem sp_spellF {r : Int} (hr : 0 ≤ r ∧ r ≤ 100000) (hc : s 70 4 = c) (hc4 : c ≤ 4) : am_M Ln (d + 1) 8 [vR 70, vI r] s (am_rV fun s' => ∃ f, s' = zc s 74 f ∧ ∀ j : Nat, j < c → f j = dv r j % 5) := by
  have key : ∀ (m k : Nat) (f : Int → Int), k + m = c → (∀ j : Nat, j < k → f j = dv r j % 5) → am_E Ln d 8 4 [vR 70, vU, vI (dv r k), vI (k : Int)] [] (zc s 74 f) (am_rV fun s' => ∃ f, s' = zc s 74 f ∧ ∀ j : Nat, j < c → f j = dv r j % 5) := by
    intro m
    induction m with
    | zero =>
      intro k f hk hf
      obtain rfl : k = c := by omega
      refine vl_X0_spellFromFirst_4 _ _ _ ⟨fun _ => ⟨f, rfl, hf⟩, fun h => absurd ?_ h⟩
      rw [zc_ne (by decide), hc]; omega
    | succ m ih =>
      intro k f hk hf
      have h1 := dv_nn hr.1 k
      refine vl_X0_spellFromFirst_4 _ _ _ ⟨fun h => absurd h ?_, fun _ => ⟨fun h => absurd h (by omega), fun _ => ⟨by decide, by omega, by decide, ?_⟩⟩⟩
      · rw [zc_ne (by decide), hc]; omega
      · rw [Int.tdiv_eq_ediv_of_nonneg h1.1, Int.tmod_eq_emod_of_nonneg h1.1, w32_id (x := dv r k / 5) (by omega) (by omega), w32_id (x := (k : Int) + 1) (by omega) (by omega), up_zc, zc_eq, zc_zc]
        have kk := ih (k + 1) (fu f k (dv r k % 5)) (by omega) (fun j a => by
          rw [fu_app]
          by_cases e : j = k
          · rw [if_pos (by omega), e]
          · rw [if_neg (by omega)]; exact hf j (by omega))
        rw [dv] at kk
        exact kk
  have k0 := key c 0 (s 74) (by omega) (fun j a => absurd a (by omega))
  rw [zc_self] at k0
  exact vm_X0_spellFromFirst _ _ k0
theorem sm_pick {f : Int → Int} {o : Int} (ho : 0 ≤ o) : ∀ n : Nat, sm (fun x => if o = -1 ∨ o = x then f x else 0) n = if o < n then f o else 0
  | 0 => by rw [sm, if_neg (by omega)]
  | n + 1 => by
    rw [sm, sm_pick ho n]
    by_cases e : o = n
    · rw [if_neg (by omega), if_pos (Or.inr e), if_pos (by omega), e]; omega
    · rw [if_neg (c := o = -1 ∨ o = (n : Int)) (by omega)]
      by_cases e2 : o < n
      · rw [if_pos e2, if_pos (by omega)]; omega
      · rw [if_neg e2, if_neg (by omega)]; rfl
theorem sp_claimOf {m : MS} {k o : Int} {P NT : Nat} (ho : 0 ≤ o ∧ o < 10) (hm : MI k m) (hR : RX m s) (h9 : 0 ≤ s 41 9) (h5 : s 5 = C 5) (hP : s 4 2 = P) (hPP : P ≤ 10) (hT : NT ≤ 10) (hz : NTz NT m) :
    am_M Ln (d + 4) 46 [vR 40, vI o] s (am_rI fun v s' => v = clm C m o P NT ∧ Fr [51] [] s s') := by
  have hcP := clm_bd (H := C 5) (o := o) hm P hPP
  have hk2 := hm.1
  have e10 : sm (fun k => m.2.1 (10 * k + o)) 10 = sm (fun k => m.2.1 (10 * k + o)) NT := sm_short hT (fun i a b => hz i o a b ho.1 ho.2)
  have l2 : ∀ (q j : Nat) (s1 : AS), j + q = 10 → Fr [51] [] s s1 → am_E Ln (d + 3) 46 48 [vR 40, vI o, vI (sm (clmP (C 5) m o) P + sm (fun k => m.2.1 (10 * k + o)) j), vI (j : Int)] [] s1 (am_rI fun v s' => v = clm C m o P NT ∧ Fr [51] [] s s') := by
    intro q
    induction q with
    | zero =>
      intro j s1 hj hs1
      obtain rfl : j = 10 := by omega
      refine vl_X6_claimOf_48 _ _ _ _ ⟨fun _ => ⟨?_, hs1⟩, fun h => absurd (by omega) h⟩
      rw [e10]; rfl
    | succ q ih =>
      intro j s1 hj hs1
      have b1 := clm_bd2 ho hm j (by omega)
      have b2 := (hm.2.2.2 (10 * (j : Int) + o) (by omega) (by omega)).1
      have hRs : RX m s1 := RX_fr hR hs1 (by decide) (by decide) (by decide)
      refine vl_X6_claimOf_48 _ _ _ _ ⟨fun h => absurd h (by omega), fun _ => cI (sp_shareOf (d := d + 2) ⟨by omega, by omega⟩ (Or.inr ho) (fun x a b => by rw [hRs.2.2.1 x a b]; have := (hm.2.2.2 x a b).1; omega)) ?_⟩
      rintro v s2 ⟨y1, rfl⟩
      rw [sm_pick ho.1, if_pos (show o < ((10 : Nat) : Int) from ho.2), hRs.2.2.1 (10 * (j : Int) + o) (by omega) (by omega)] at y1
      have kk := ih (j + 1) s2 (by omega) hs1
      rw [sm, ← Int.add_assoc] at kk
      rw [y1, w32_id (x := sm (clmP (C 5) m o) P + sm (fun k => m.2.1 (10 * k + o)) j + m.2.1 (10 * (j : Int) + o)) (by omega) (by omega), w32_id (x := (j : Int) + 1) (by omega) (by omega)]
      exact kk
  have l1 : ∀ (q j : Nat) (s1 : AS), j + q = P → Fr [51] [] s s1 → am_E Ln (d + 3) 46 4 [vR 40, vI o, vI (sm (clmP (C 5) m o) j), vI (j : Int)] [] s1 (am_rI fun v s' => v = clm C m o P NT ∧ Fr [51] [] s s') := by
    intro q
    induction q with
    | zero =>
      intro j s1 hj hs1
      obtain rfl : j = P := by omega
      have kk := l2 10 0 s1 (by omega) hs1
      rw [sm.eq_1 (fun k => m.2.1 (10 * k + o)), Int.add_zero] at kk
      refine vl_X6_claimOf_4 _ _ _ _ ⟨fun _ => kk, fun h => absurd ?_ h⟩
      rw [hs1.fld 4 2 (by decide), hP]; omega
    | succ q ih =>
      intro j s1 hj hs1
      have b1 := clm_bd (H := C 5) (o := o) hm j (by omega)
      have b2 := clm_bd (H := C 5) (o := o) hm (j + 1) (by omega)
      have hps := (hm.2.1 j (by omega) (by omega)).2.2
      rw [sm] at b2
      have hRs : RX m s1 := RX_fr hR hs1 (by decide) (by decide) (by decide)
      refine vl_X6_claimOf_4 _ _ _ _ ?_
      rw [hs1.fld 4 2 (by decide), hP, hs1.cell 5 (by decide), h5, w32_id (x := (j : Int) + 1) (by omega) (by omega)]
      refine ⟨fun h => absurd h (by omega), fun _ => ⟨by omega, fun e => ?_, fun e => cI (sp_held (RX_T hRs hm (by rw [hs1.fld 41 9 (by decide)]; exact h9)) (by rw [hRs.2.1 j (by omega) (by omega)]; omega)) ?_⟩⟩
      · have kk := ih (j + 1) s1 (by omega) hs1
        have ev : clmP (C 5) m o j = 0 := by rw [clmP, if_pos e]
        rw [sm, ev, Int.add_zero] at kk
        exact kk
      · rintro v s2 ⟨y1, y2⟩
        rw [if_pos ho, hRs.2.1 j (by omega) (by omega)] at y1
        have ev : v = clmP (C 5) m o j := by rw [y1, clmP, if_neg e]
        have kk := ih (j + 1) s2 (by omega) (hs1.tr y2)
        rw [sm] at kk
        rw [ev, w32_id (x := sm (clmP (C 5) m o) j + clmP (C 5) m o j) (by omega) (by omega)]
        exact kk
  have k0 := l1 P 0 s (by omega) Fr.rf
  rw [sm.eq_1] at k0
  exact vm_X6_claimOf _ _ k0
theorem mact_fo {F : FD} {t : Int} {fo fo' : Int → Int} {i : Int} {m : MS} (h : tkD (C 8 i) = true → fo (C 9 i) = fo' (C 9 i)) : mact C F t fo i m = mact C F t fo' i m := by
  unfold mact
  by_cases e : tkD (C 8 i) = true
  · have : twF C F t fo i m = twF C F t fo' i m := by unfold twF wayF; rw [h e]
    rw [if_pos e, if_pos e, this]
  · rw [if_neg e, if_neg e]
theorem mpl_fo {F : FD} {t : Int} {fo fo' : Int → Int} : ∀ (L : List Int) (m : MS), (∀ i ∈ L, tkD (C 8 i) = true → fo (C 9 i) = fo' (C 9 i)) → mpl C F t fo L m = mpl C F t fo' L m
  | [], m, _ => rfl
  | i :: L, m, h => by rw [mpl, mpl, mact_fo (h i List.mem_cons_self), mpl_fo L _ (fun x hx => h x (List.mem_cons_of_mem _ hx))]
end CW
