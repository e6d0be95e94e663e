/-! the book of rules: what is found in it, by the class -/
def CL (C : AS) (G : Int → GF) (r c : Int) : Prop := (C 101 c = C 30 c ∧ C 102 c = C 31 c) ∧ (C 30 c = 120 → C 103 c = C 32 c ∧ (0 ≤ C 31 c ∧ C 31 c < 20) ∧ (0 ≤ C 32 c ∧ C 32 c < 12)) ∧
  (C 30 c ≠ 120 → (C 30 c = 119 → 0 ≤ C 31 c ∧ C 31 c ≤ 4) ∧ BO (G c) ∧ (SX (C 35) (C 33 c) (C 34 c) 39 (G c) ∧ C 34 c ≤ 160 * r + 160) ∧ (0 ≤ C 104 c ∧ C 105 c ≤ 160) ∧ ∃ m, cds C (160 * r + C 104 c) m ∧ C 104 c + m.length = C 105 c ∧ SM m 198 (G c))
def RB (C : AS) (G : Int → GF) : Prop := (0 ≤ C 24 14 ∧ C 24 14 ≤ 20) ∧ ∀ r : Int, 0 ≤ r → r < C 24 14 → ((C 96 r = C 25 r ∧ C 97 r = C 26 r ∧ C 98 r = C 27 r ∧ C 99 r = C 28 r ∧ C 100 r = C 29 r) ∧ (0 ≤ C 29 r ∧ C 29 r ≤ 12)) ∧ ∀ c : Int, 12 * r ≤ c → c < 12 * r + C 29 r → CL C G r c
def infF (C : AS) (la dy t r : Int) : Bool := decide (C 28 r ≤ t ∧ C 25 r = la ∧ C 26 r ≤ dy ∧ dy ≤ C 27 r)
/-- what is struck behind the first clauses of rules r -/
def xsF (C : AS) (r : Int) (S : Int → Bool) : Nat → Int → Bool
  | 0 => S
  | j + 1 => fun c => xsF C r S j c || (!(S (12 * r + j)) && decide (C 30 (12 * r + j) = 120 ∧ C 31 (12 * r + j) < r ∧ 12 * C 31 (12 * r + j) + C 32 (12 * r + j) = c))
def fcP (C : AS) (G : Int → GF) (l : Int) (f : Int → Int) (S : Int → Bool) (c : Int) : Bool := !(S c) && (decide (C 30 c = l) && decide (G c f = some 1))
def fcF (C : AS) (G : Int → GF) (l : Int) (f : Int → Int) (S : Int → Bool) (r n j : Int) : Option Int := (rl (n - j) (fun i => 12 * r + (j + i))).find? (fcP C G l f S)
def orE (o : Option Int) (e : Int) : Int := match o with
  | some c => c
  | none => e
def fnF (C : AS) (G : Int → GF) (l la dy t : Int) (f : Int → Int) : Nat → (Int → Bool) → Int
  | 0, _ => -1
  | r + 1, S => if infF C la dy t r = true then orE (fcF C G l f S r (C 29 r) 0) (fnF C G l la dy t f r (xsF C r S (C 29 r).toNat)) else fnF C G l la dy t f r S
def findF (C : AS) (G : Int → GF) : FD := fun l la dy t f => fnF C G l la dy t f (C 24 14).toNat (fun _ => false)
theorem fcF_nil {C : AS} {G : Int → GF} {l : Int} {f : Int → Int} {S : Int → Bool} {r n j : Int} (h : n ≤ j) : fcF C G l f S r n j = none := by
  unfold fcF
  rw [rl_neg _ (by omega)]
  rfl
theorem fcF_cons {C : AS} {G : Int → GF} {l : Int} {f : Int → Int} {S : Int → Bool} {r n j : Int} (h : j < n) : fcF C G l f S r n j = if fcP C G l f S (12 * r + j) = true then some (12 * r + j) else fcF C G l f S r n (j + 1) := by
  unfold fcF
  have e : rl (n - j) (fun i => 12 * r + (j + i)) = (12 * r + j) :: rl (n - (j + 1)) (fun i => 12 * r + (j + 1 + i)) := by
    rw [rl_cons _ (by omega), Int.add_zero, show n - j - 1 = n - (j + 1) by omega]
    congr 1
    exact rl_congr fun i _ _ => by rw [show j + (i + 1) = j + 1 + i by omega]
  rw [e, List.find?_cons]
  split
  · rename_i q; rw [if_pos q]
  · rename_i q; rw [if_neg (by rw [q]; decide)]
theorem xsF_own {C : AS} {r : Int} {S : Int → Bool} {c : Int} (hc : 12 * r ≤ c) : ∀ {j : Nat}, (∀ k : Int, 0 ≤ k → k < j → C 30 (12 * r + k) = 120 → C 32 (12 * r + k) < 12) → xsF C r S j c = S c
  | 0, _ => rfl
  | j + 1, h => by
    rw [xsF]
    dsimp only
    rw [xsF_own hc (fun k a b => h k a (by omega))]
    rw [decide_eq_false, Bool.and_false, Bool.or_false]
    rintro ⟨h1, h2, h3⟩
    have := h j (by omega) (by omega) h1
    omega
def XB (S : Int → Bool) (σ : AS) : Prop := ∀ r : Int, 0 ≤ r → r < 20 → ∃ x : Nat, σ 36 r = x ∧ x < 1073741824 ∧ ∀ j : Nat, j < 12 → x.testBit j = S (12 * r + j)
theorem XB_fr {S : Int → Bool} {σ σ' : AS} (h : XB S σ) (e : σ' 36 = σ 36) : XB S σ' := by
  intro r a b
  rw [e]
  exact h r a b
section FD
variable {Ln : Int} {C : AS} {G : Int → GF} {l la dy t : Int} {f : Int → Int}
theorem lp_find50 {d : Nat} {r : Nat} {σ0 : AS} (hR : RB C G) (hr : (r : Int) < C 24 14) (hl : l ≠ 120) (hf0 : Fr wkX wkF C σ0) (hf : ∀ j : Int, 0 ≤ j → j < 8 → σ0 38 j = f j) {S : Int → Bool} {n : Nat} (hn : C 29 r = n)
    (next : ∀ σ, XB (xsF C r S n) σ → Fr [36, 37] [] σ0 σ → am_E Ln (d + 2) 49 16 [vR 24, vI l, vI la, vI dy, vI t, vI ((r : Int) - 1), vU, vU, vU, vU] [] σ (am_rI fun x σ' => x = fnF C G l la dy t f r (xsF C r S n) ∧ Fr [36, 37] [] σ0 σ')) :
    ∀ (q j : Nat) (σ : AS), j + q = n → XB (xsF C r S j) σ → Fr [36, 37] [] σ0 σ →
    am_E Ln (d + 2) 49 50 [vR 24, vI l, vI la, vI dy, vI t, vI (r : Int), vI (n : Int), vI (j : Int), vU, vU] [] σ (am_rI fun x σ' => x = orE (fcF C G l f S r n j) (fnF C G l la dy t f r (xsF C r S n)) ∧ Fr [36, 37] [] σ0 σ') := by
  obtain ⟨⟨R0, R1⟩, hRr⟩ := hR
  obtain ⟨⟨-, n0, n12⟩, hcl⟩ := hRr r (by omega) hr
  intro q
  induction q with
  | zero =>
    intro j σ hj hx hfr
    obtain rfl : j = n := by omega
    refine vl_X7_find_50 _ _ _ _ _ _ _ _ ⟨fun _ => ?_, fun h => absurd (by omega) h⟩
    rw [w32_id (by omega) (by omega), fcF_nil (by omega)]
    exact next σ hx hfr
  | succ q ih =>
    intro j σ hj hx hfr
    have hc := hcl (12 * r + j) (by omega) (by omega)
    have fC : Fr wkX wkF C σ := hf0.tr (hfr.mo (by decide) (by decide))
    have e30 : σ 30 = C 30 := fC.cell 30 (by decide)
    have e31 : σ 31 = C 31 := fC.cell 31 (by decide)
    have e32 : σ 32 = C 32 := fC.cell 32 (by decide)
    have own : xsF C r S j (12 * r + j) = S (12 * r + j) := xsF_own (by omega) (fun k a b h => (((hcl (12 * r + k) (by omega) (by omega)).2.1 h).2.2).2)
    have rr20 : (r : Int) < 20 := by omega
    have jj12 : j < 12 := by omega
    have hb : bAnd (bShr (σ 36 r) j) 1 = if S (12 * r + j) = true then 1 else 0 := by
      obtain ⟨x, hx1, hx2, hx3⟩ := hx r (Int.natCast_nonneg r) rr20
      rw [hx1, bit_get (Nat.lt_trans jj12 (by decide)) (Nat.lt_trans hx2 (by decide)), hx3 j jj12, own]
    have e1 : w32 (w32 ((r : Int) * 12) + j) = 12 * r + j := by
      rw [w32_id (x := (r : Int) * 12) (by omega) (by omega), w32_id (by omega) (by omega)]; omega
    have step : ∀ (σ' : AS), XB (xsF C r S (j + 1)) σ' → Fr [36, 37] [] σ σ' → fcP C G l f S (12 * r + j) = false → am_E Ln (d + 2) 49 50 [vR 24, vI l, vI la, vI dy, vI t, vI (r : Int), vI (n : Int), vI (w32 ((j : Int) + 1)), vU, vU] [] σ' (am_rI fun x σ' => x = orE (fcF C G l f S r n j) (fnF C G l la dy t f r (xsF C r S n)) ∧ Fr [36, 37] [] σ0 σ') := by
      intro σ' h1 h2 h3
      rw [w32_id (by omega) (by omega), fcF_cons (by omega), if_neg (by rw [h3]; decide)]
      exact ih (j + 1) σ' (by omega) h1 (hfr.tr h2)
    have same : (S (12 * r + j) = true ∨ C 30 (12 * r + j) ≠ 120) → xsF C r S (j + 1) = xsF C r S j := by
      intro h
      funext c
      rw [xsF]
      dsimp only
      rcases h with h | h
      · rw [h, Bool.not_true, Bool.false_and, Bool.or_false]
      · rw [decide_eq_false (fun z => h z.1), Bool.and_false, Bool.or_false]
    -- the letter is asked
    have ask : S (12 * r + j) = false → C 30 (12 * r + j) ≠ 120 → (0 ≤ 12 * (r : Int) + j ∧ 12 * (r : Int) + j < 240) ∧ ((C 30 (12 * r + j) = l →
          ∃ T : Option AV → AS → Prop, am_M Ln (d + 2) 52 [vR 24, vI (12 * (r : Int) + j)] σ T ∧ ∀ (r2 : Int) s1, T (some (vI r2)) s1 →
          (r2 = 0 →
            am_E Ln (d + 2) 49 50 [vR 24, vI l, vI la, vI dy, vI t, vI (r : Int), vI (n : Int), vI (w32 ((j : Int) + 1)), vU, vU] [] s1 (am_rI fun x σ' => x = orE (fcF C G l f S r n j) (fnF C G l la dy t f r (xsF C r S n)) ∧ Fr [36, 37] [] σ0 σ')) ∧
          (¬ (r2 = 0) →
            (am_rI fun x σ' => x = orE (fcF C G l f S r n j) (fnF C G l la dy t f r (xsF C r S n)) ∧ Fr [36, 37] [] σ0 σ') (some (vI (12 * (r : Int) + j))) s1)) ∧
        (¬ (C 30 (12 * r + j) = l) →
          am_E Ln (d + 2) 49 50 [vR 24, vI l, vI la, vI dy, vI t, vI (r : Int), vI (n : Int), vI (w32 ((j : Int) + 1)), vU, vU] [] σ (am_rI fun x σ' => x = orE (fcF C G l f S r n j) (fnF C G l la dy t f r (xsF C r S n)) ∧ Fr [36, 37] [] σ0 σ'))) := by
      intro hS h120
      obtain ⟨c1, c2, ⟨c3, c4⟩, c5, c6⟩ := hc.2.2 h120
      have hsame := same (Or.inr h120)
      refine ⟨⟨by omega, by omega⟩, fun hl2 => ?_, fun hl2 => step σ (by rw [hsame]; exact hx) Fr.rf (by unfold fcP; rw [decide_eq_false hl2]; simp)⟩
      have z33 : σ 33 = C 33 := fC.cell 33 (by decide)
      have z34 : σ 34 = C 34 := fC.cell 34 (by decide)
      have z35 : σ 35 = C 35 := fC.cell 35 (by decide)
      refine cI (sp_holds (d := d) (f := f) (g := G (12 * r + j)) ⟨by omega, by omega⟩ (by rw [z33, z34, z35]; exact c3) c2 (by rw [z34]; omega) (by rw [hfr.cell 38 (by decide)]; exact hf)) ?_
      rintro r2 s1 ⟨y1, y2⟩
      refine ⟨fun hz => step s1 (by rw [hsame]; exact XB_fr hx (y2.cell 36 (by decide))) (y2.mo (by decide) (by decide)) ?_, fun hz => ?_⟩
      · unfold fcP
        rw [decide_eq_false (p := G (12 * r + j) f = some 1) (fun z => by rw [if_pos z] at y1; omega)]
        simp
      · have hg : G (12 * r + j) f = some 1 := by
          by_cases z : G (12 * r + j) f = some 1
          · exact z
          · rw [if_neg z] at y1; exact absurd y1 hz
        refine ⟨?_, hfr.tr (y2.mo (by decide) (by decide))⟩
        rw [fcF_cons (by omega), if_pos (by unfold fcP; rw [hS, hg, hl2]; simp)]
        rfl
    refine vl_X7_find_50 _ _ _ _ _ _ _ _ ⟨fun h => absurd h (by omega), fun _ => ⟨⟨by omega, by omega⟩, ?_⟩⟩
    rw [hb, e1, e30]
    by_cases hS : S (12 * r + j) = true
    · rw [if_pos hS]
      have nx := step σ (by rw [same (Or.inl hS)]; exact hx) Fr.rf (by unfold fcP; rw [hS]; rfl)
      exact ⟨fun q => absurd q (by decide), fun _ => ⟨fun _ => ⟨fun _ => nx, fun q => absurd rfl q⟩, fun q => absurd rfl q⟩⟩
    · rw [if_neg hS]
      have hS' : S (12 * r + j) = false := by simpa using hS
      refine ⟨fun _ => ⟨fun q => absurd q (by decide), fun _ => ⟨⟨by omega, by omega⟩, fun h120 => ?_, fun h120 => ⟨fun q => absurd q (by decide), fun _ => ask hS' h120⟩⟩⟩, fun q => absurd rfl q⟩
      obtain ⟨c0, c1, c2⟩ := hc.2.1 h120
      have hp : fcP C G l f S (12 * r + j) = false := by unfold fcP; rw [h120, decide_eq_false (fun z => hl z.symm)]; simp
      refine cV (P := fun s3 => XB (xsF C r S (j + 1)) s3 ∧ Fr [36, 37] [] σ s3) ?_ (fun s3 hs3 => step s3 hs3.1 hs3.2 hp)
      refine vm_X7_strikeLower _ _ _ ⟨⟨by omega, by omega⟩, ?_⟩
      rw [e31, e32]
      have notlow : ¬ C 31 (12 * r + j) < r → xsF C r S (j + 1) = xsF C r S j := fun hlt => by
        funext c
        rw [xsF]
        dsimp only
        rw [decide_eq_false (fun z => hlt z.2.1), Bool.and_false, Bool.or_false]
      refine ⟨fun q => absurd q (by omega), fun _ => ⟨fun q => ⟨by rw [notlow (by omega)]; exact hx, Fr.rf⟩, fun q => ⟨c1, ⟨by omega, by omega⟩, c1, ?_⟩⟩⟩
      obtain ⟨y, hy1, hy2, hy3⟩ := hx (C 31 (12 * r + j)) c1.1 c1.2
      obtain ⟨s, hs⟩ : ∃ s : Nat, C 32 (12 * r + j) = s := ⟨(C 32 (12 * r + j)).toNat, by omega⟩
      have hs30 : s < 30 := by omega
      obtain ⟨z, hz1, hz2, hz3⟩ := bit_set (x := y) (j := s) hs30 hy2
      rw [hy1, hs, hz1]
      refine ⟨fun r' a b => ?_, Fr.up Fr.rf (Or.inl (by decide))⟩
      rw [am_up_eq]
      have ex : ∀ c, xsF C r S (j + 1) c = (xsF C r S j c || decide (12 * C 31 (12 * r + j) + s = c)) := fun c => by
        rw [xsF]
        dsimp only
        rw [hS', h120, hs]
        have h31 : C 31 (12 * r + j) < r := by omega
        simp only [Bool.not_false, Bool.true_and, true_and, h31]
      by_cases er : r' = C 31 (12 * r + j)
      · rw [if_pos er]
        refine ⟨z, rfl, hz2, fun jj hjj => ?_⟩
        have hd : decide (jj = s) = decide (12 * C 31 (12 * r + j) + (s : Int) = 12 * C 31 (12 * r + j) + (jj : Int)) := decide_eq_decide.mpr (by omega)
        rw [hz3, hy3 jj hjj, ex, er, hd]
      · rw [if_neg er]
        obtain ⟨v, hv1, hv2, hv3⟩ := hx r' a b
        refine ⟨v, hv1, hv2, fun jj hjj => ?_⟩
        rw [hv3 jj hjj, ex, decide_eq_false (by omega), Bool.or_false]
theorem lp_find16 {d : Nat} {σ0 : AS} (hR : RB C G) (hl : l ≠ 120) (hf0 : Fr wkX wkF C σ0) (hf : ∀ j : Int, 0 ≤ j → j < 8 → σ0 38 j = f j) : ∀ (r : Nat) (S : Int → Bool) (σ : AS), (r : Int) ≤ C 24 14 → XB S σ → Fr [36, 37] [] σ0 σ →
    am_E Ln (d + 2) 49 16 [vR 24, vI l, vI la, vI dy, vI t, vI ((r : Int) - 1), vU, vU, vU, vU] [] σ (am_rI fun x σ' => x = fnF C G l la dy t f r S ∧ Fr [36, 37] [] σ0 σ') := by
  intro r
  induction r with
  | zero =>
    intro S σ hr hx hfr
    exact vl_X7_find_16 _ _ _ _ _ _ ⟨fun _ => ⟨rfl, hfr⟩, fun h => absurd (by omega) h⟩
  | succ r ih =>
    intro S σ hr hx hfr
    have fC : Fr wkX wkF C σ := hf0.tr (hfr.mo (by decide) (by decide))
    obtain ⟨⟨-, n0, n12⟩, -⟩ := hR.2 r (by omega) (by omega)
    have e0 : ((r + 1 : Nat) : Int) - 1 = r := by omega
    have hR1 := hR.1
    rw [e0]
    obtain ⟨n, hn⟩ : ∃ n : Nat, C 29 r = n := ⟨(C 29 r).toNat, by omega⟩
    refine vl_X7_find_16 _ _ _ _ _ _ ⟨fun h => absurd h (by omega), fun _ => ?_⟩
    refine cI (P := fun x s => x = (if infF C la dy t r = true then 1 else 0) ∧ s = σ) ?_ ?_
    · refine vm_X7_isInForce _ _ _ _ _ ⟨⟨by omega, by have := hR.1; omega⟩, ?_⟩
      rw [fC.cell 28 (by decide), fC.cell 25 (by decide), fC.cell 26 (by decide), fC.cell 27 (by decide)]
      have rr : 0 ≤ (r : Int) ∧ (r : Int) < 20 := ⟨by omega, by have := hR.1; omega⟩
      unfold infF
      refine ⟨fun h1 => ⟨am_b0, ?_, rfl⟩, fun h1 => ⟨rr, fun h2 => ⟨rr, fun h3 => ⟨am_b0, ?_, rfl⟩, fun h3 => ⟨rr, fun h4 => ⟨am_b0, ?_, rfl⟩, fun h4 => ⟨am_b1, ?_, rfl⟩⟩⟩, fun h2 => ⟨am_b0, ?_, rfl⟩⟩⟩
      · rw [decide_eq_false (by omega)]; rfl
      · rw [decide_eq_false (by omega)]; rfl
      · rw [decide_eq_false (by omega)]; rfl
      · rw [decide_eq_true (by omega)]; rfl
      · rw [decide_eq_false (fun z => h2 z.2.1)]; rfl
    · rintro x s ⟨hx1, rfl⟩
      refine ⟨fun hz => ?_, fun hz => ?_⟩
      · have hi : infF C la dy t r = false := by
          by_cases z : infF C la dy t r = true
          · rw [if_pos z] at hx1; omega
          · simpa using z
        refine vl_X7_find_50 _ _ _ _ _ _ _ _ ⟨fun _ => ?_, fun h => absurd (by omega) h⟩
        rw [w32_id (by omega) (by omega), fnF, if_neg (by rw [hi]; decide)]
        exact ih S s (by omega) hx hfr
      · have hi : infF C la dy t r = true := by
          by_cases z : infF C la dy t r = true
          · exact z
          · rw [if_neg z] at hx1; exact absurd hx1 hz
        rw [fnF, if_pos hi, fC.cell 29 (by decide), hn]
        refine ⟨⟨by omega, by have := hR.1; omega⟩, ?_⟩
        rw [show ((n : Int).toNat) = n by omega]
        exact lp_find50 hR (by omega) hl hf0 hf hn (fun τ h1 h2 => ih _ τ (by omega) h1 h2) n 0 s (by omega) hx hfr
theorem fnF_bd (hR : RB C G) : ∀ (r : Nat) (S : Int → Bool), (r : Int) ≤ C 24 14 → (-1 ≤ fnF C G l la dy t f r S ∧ fnF C G l la dy t f r S < 240) ∧ (l = 119 → fnF C G l la dy t f r S ≠ -1 → C 102 (fnF C G l la dy t f r S) = C 31 (fnF C G l la dy t f r S) ∧ 0 ≤ C 31 (fnF C G l la dy t f r S) ∧ C 31 (fnF C G l la dy t f r S) ≤ 4) := by
  intro r
  induction r with
  | zero => intro S _; exact ⟨by rw [fnF]; omega, fun _ h => absurd rfl h⟩
  | succ r ih =>
    intro S hr
    rw [fnF]
    split
    · obtain ⟨⟨-, n0, n12⟩, hcl⟩ := hR.2 r (by omega) (by omega)
      cases e : fcF C G l f S r (C 29 r) 0 with
      | none => exact ih _ (by omega)
      | some c =>
        unfold fcF at e
        have hp := List.find?_some e
        have hm := List.mem_of_find?_eq_some e
        obtain ⟨i, a, b, rfl⟩ := rl_mem.mp hm
        unfold fcP at hp
        simp only [Bool.and_eq_true, decide_eq_true_eq] at hp
        have hR1 := hR.1
        refine ⟨⟨by show (-1 : Int) ≤ 12 * r + (0 + i); omega, by show 12 * (r : Int) + (0 + i) < 240; omega⟩, fun h119 _ => ?_⟩
        show C 102 (12 * r + (0 + i)) = C 31 (12 * r + (0 + i)) ∧ _
        have hc := hcl (12 * r + (0 + i)) (by omega) (by omega)
        exact ⟨hc.1.2, (hc.2.2 (by rw [hp.2.1, h119]; decide)).1 (by rw [hp.2.1, h119])⟩
    · exact ih S (by omega)
theorem ruX_find (hR : RB C G) : ruX Ln C (findF C G) := by
  intro d σ l la dy t f hl hf0 hf
  have hl2 : l ≠ 120 := by omega
  refine vm_X7_find _ _ _ _ _ (cV (sp_fill_36 σ 0) ?_)
  rintro s1 ⟨g, rfl, hg⟩
  have f1 : Fr [36] [] σ (zc σ 36 g) := Fr.cl Fr.rf (by decide)
  have e14 : zc σ 36 g 24 14 = C 24 14 := by rw [zc_ne (by decide), hf0.fld 24 14 (by decide)]
  obtain ⟨R, hRR⟩ : ∃ R : Nat, C 24 14 = R := ⟨(C 24 14).toNat, by have := hR.1; omega⟩
  have hR1 := hR.1
  rw [e14, hRR, w32_id (by omega) (by omega)]
  refine am_EI (lp_find16 (C := C) (G := G) (f := f) (la := la) (dy := dy) (t := t) hR hl2 (hf0.tr (f1.mo (by decide) (by decide))) (by rw [f1.cell 38 (by decide)]; exact hf) R (fun _ => false) _ (by omega) (fun r a b => ?_) Fr.rf) ?_
  · rw [zc_eq]
    exact ⟨0, hg r a b, by omega, fun j _ => by simp⟩
  · rintro x s ⟨h1, h2⟩
    have hb := fnF_bd (l := l) (la := la) (dy := dy) (t := t) (f := f) hR R (fun _ => false) (by omega)
    have e : findF C G l la dy t f = x := by
      unfold findF
      rw [hRR, h1]
      rfl
    rw [← h1] at hb
    exact ⟨e.symm, hb.1, fun q1 q2 => (hb.2 q1 q2).2, (f1.mo (by decide) (by decide)).tr h2⟩
end FD
