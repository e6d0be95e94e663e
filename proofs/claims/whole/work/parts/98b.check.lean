/-! the tape says what is in the purses -/
section TU
variable {σ : AS} {G : Int → GF}
def noT (σ : AS) : AS := am_up (am_up σ 2 1 0) 82 1 0
theorem xsF_up {r : Int} {S : Int → Bool} : ∀ j : Nat, xsF (noT σ) r S j = xsF σ r S j
  | 0 => rfl
  | j + 1 => by
    rw [xsF, xsF, xsF_up j]
    rfl
theorem fnF_up {l la dy t : Int} {f : Int → Int} : ∀ (r : Nat) (S : Int → Bool), fnF (noT σ) G l la dy t f r S = fnF σ G l la dy t f r S
  | 0, S => rfl
  | r + 1, S => by
    have e1 : infF (noT σ) la dy t r = infF σ la dy t r := rfl
    have e2 : fcF (noT σ) G l f S r (noT σ 29 r) 0 = fcF σ G l f S r (σ 29 r) 0 := rfl
    have e3 : noT σ 29 r = σ 29 r := rfl
    rw [fnF, fnF, fnF_up r S, e1, e2, e3, xsF_up, fnF_up r]
theorem findF_up : findF (noT σ) G = findF σ G := by
  funext l la dy t f
  exact fnF_up _ _
theorem mpl_up {F : FD} {t : Int} {fo : Int → Int} : ∀ (L : List Int) (m : MS), mpl (noT σ) F t fo L m = mpl σ F t fo L m
  | [], m => rfl
  | i :: L, m => by
    have e1 : mact (noT σ) F t fo i m = mact σ F t fo i m := rfl
    rw [mpl, mpl, e1, mpl_up L]
theorem mAll_up {dd t : Int} : mAll (noT σ) (findF (noT σ) G) dd t = mAll σ (findF σ G) dd t := by
  rw [findF_up]
  exact mpl_up _ _
end TU
def nbr (f : Int → Int) (i : Int) : Int := bOr (bOr (bOr (bShl (f (4 * i)) 24) (bShl (f (4 * i + 1)) 16)) (bShl (f (4 * i + 2)) 8)) (f (4 * i + 3))
theorem nb_core (a b c e : Int) : bOr (bShl (bOr (bShl (bOr (bShl (bOr (bShl 0 8) a) 8) b) 8) c) 8) e = bOr (bOr (bOr (bShl a 24) (bShl b 16)) (bShl c 8)) e := by
  unfold bOr bShl
  simp only [Int32.ofInt_toInt]
  apply congrArg Int32.toInt
  apply Int32.toBitVec_inj.mp
  generalize Int32.ofInt a = A
  generalize Int32.ofInt b = B
  generalize Int32.ofInt c = D
  generalize Int32.ofInt e = E
  show ((((0#32 <<< 8 ||| A.toBitVec) <<< 8 ||| B.toBitVec) <<< 8 ||| D.toBitVec) <<< 8 ||| E.toBitVec) = (((A.toBitVec <<< 24) ||| (B.toBitVec <<< 16)) ||| (D.toBitVec <<< 8)) ||| E.toBitVec
  rw [BitVec.zero_shiftLeft, BitVec.zero_or, BitVec.shiftLeft_or_distrib, BitVec.shiftLeft_or_distrib, BitVec.shiftLeft_or_distrib, ← BitVec.shiftLeft_add, ← BitVec.shiftLeft_add, ← BitVec.shiftLeft_add]
def wr (nb : Int → Int) (t p o v : Int) : Int := if nb t = p then (if nb (t + 1) = o then (if nb (t + 2) = v then 3 else 2) else 1) else 0
theorem wr_rg {nb : Int → Int} {t p o v : Int} : 0 ≤ wr nb t p o v ∧ wr nb t p o v ≤ 3 := by
  unfold wr
  split
  · split
    · split <;> omega
    · omega
  · omega
def ckO (nb H : Int → Int) (N3 p : Int) : Nat → Int → Int → Int ⊕ Int
  | 0, _, t => .inr t
  | m + 1, o, t => if H o = 0 then ckO nb H N3 p m (o + 1) t else if N3 ≤ t then .inl N3 else if 3 ≤ wr nb t p o (H o) then ckO nb H N3 p m (o + 1) (t + 3) else .inl (t + wr nb t p o (H o))
def ckP (nb : Int → Int) (H : Int → Int → Int) (N3 : Int) (NP : Nat) : Nat → Int → Int → Int
  | 0, _, t => if N3 ≤ t then -1 else t
  | m + 1, p, t => Sum.elim id (fun t' => ckP nb H N3 NP m (p + 1) t') (ckO nb (H p) N3 p NP 0 t)
section CK
variable {Ln : Int} {d : Nat} {C : AS} {m : MS} {k n : Int} {P NP : Nat}
theorem sp_num {s : AS} {i : Int} (hi : 0 ≤ i ∧ i ≤ 1000) (hz : s 2 1 ≤ 400) : am_M Ln (d + 1) 91 [vR 2, vI i] s (am_rI fun r s' => (4 * i + 4 ≤ s 2 1 → r = nbr (s 3) i) ∧ s' = s) := by
  refine vm_X10_number _ _ ?_
  rw [w32_id (x := 4 * i) (by omega) (by omega), w32_id (x := 4 * i + 4) (by omega) (by omega), w32_id (x := 4 * i + 1) (by omega) (by omega), w32_id (x := 4 * i + 2) (by omega) (by omega), w32_id (x := 4 * i + 3) (by omega) (by omega)]
  exact ⟨fun h => absurd h (by omega), fun _ => ⟨fun h => ⟨by omega, by omega, by omega, by omega, fun _ => rfl, rfl⟩, fun h => ⟨fun q => absurd q h, rfl⟩⟩⟩
theorem sp_wrong {s : AS} {t p o v : Int} (ht : 0 ≤ t ∧ t ≤ 300) (hz : s 2 1 ≤ 400) : am_M Ln (d + 2) 123 [vR 1, vI t, vI p, vI o, vI v] s (am_rI fun r s' => (4 * (t + 2) + 4 ≤ s 2 1 → r = wr (nbr (s 3)) t p o v) ∧ s' = s) := by
  refine vm_X11_wrongInThree _ _ _ _ _ (cI (sp_num (by omega) hz) ?_)
  rintro r1 s1 ⟨a1, rfl⟩
  rw [w32_id (x := t + 1) (by omega) (by omega), w32_id (x := t + 2) (by omega) (by omega)]
  refine ⟨fun e1 => cI (sp_num (by omega) hz) ?_, fun e1 => ⟨fun q => ?_, rfl⟩⟩
  · rintro r2 s2 ⟨a2, rfl⟩
    refine ⟨fun e2 => cI (sp_num (by omega) hz) ?_, fun e2 => ⟨fun q => ?_, rfl⟩⟩
    · rintro r3 s3 ⟨a3, rfl⟩
      refine ⟨fun e3 => ⟨fun q => ?_, rfl⟩, fun e3 => ⟨fun q => ?_, rfl⟩⟩
      · unfold wr
        rw [← a1 (by omega), ← a2 (by omega), ← a3 (by omega), if_pos e1, if_pos e2, if_pos e3]
      · unfold wr
        rw [← a1 (by omega), ← a2 (by omega), ← a3 (by omega), if_pos e1, if_pos e2, if_neg e3]
    · unfold wr
      rw [← a1 (by omega), ← a2 (by omega), if_pos e1, if_neg e2]
  · unfold wr
    rw [← a1 (by omega), if_neg e1]
theorem lp_cwO (hm : MI k m) (hR : RX m C) (h9 : 0 ≤ C 41 9) (hN : C 1 11 = NP) (hNP : NP ≤ 10) (hn : 0 ≤ n ∧ n ≤ 33) (hz : C 2 1 ≤ 400) (hz2 : 12 * n ≤ C 2 1) {p : Int} (hp : 0 ≤ p ∧ p < 10) {Q : Option AV → AS → Prop} : ∀ (q : Nat) (o kk : Int) (s : AS), o + q = NP → 0 ≤ o → (0 ≤ kk ∧ kk ≤ n) → Fr [51] [] C s →
    Sum.elim (fun r => ∀ s', Fr [51] [] C s' → Q (some (vI r)) s') (fun t => ∀ s' k', Fr [51] [] C s' → t = 3 * k' → (0 ≤ k' ∧ k' ≤ n) → am_E Ln (d + 3) 122 4 [vR 1, vI (3 * n), vI t, vI (p + 1), vU, vU, vU] [] s' Q) (ckO (nbr (C 3)) (fun o => pof o (m.1 p)) (3 * n) p q o (3 * kk)) →
    am_E Ln (d + 3) 122 18 [vR 1, vI (3 * n), vI (3 * kk), vI p, vI o, vU, vU] [] s Q := by
  intro q
  induction q with
  | zero =>
    intro o kk s ho h0 hk hs hQ
    have e : s 1 11 = NP := by rw [hs.fld 1 11 (by decide)]; exact hN
    refine vl_X11_firstWrong_18 _ _ _ _ _ ?_
    rw [e, w32_id (x := p + 1) (by omega) (by omega)]
    exact ⟨fun _ => hQ s kk hs rfl hk, fun h => absurd (by omega) h⟩
  | succ q ih =>
    intro o kk s ho h0 hk hs hQ
    have e : s 1 11 = NP := by rw [hs.fld 1 11 (by decide)]; exact hN
    have e2 : s 2 1 = C 2 1 := hs.fld 2 1 (by decide)
    have hRs : RX m s := RX_fr hR hs (by decide) (by decide) (by decide)
    have hpk := pof_nn (o := o) (fun x hx => Int.le_of_lt ((hm.2.1 p hp.1 hp.2).1 x hx).2.2)
    have hps := (hm.2.1 p hp.1 hp.2).2.2
    have hk2 := hm.1
    refine vl_X11_firstWrong_18 _ _ _ _ _ ?_
    rw [e]
    refine ⟨fun h => absurd h (by omega), fun _ => cI (sp_held (RX_T hRs hm (by rw [hs.fld 41 9 (by decide)]; exact h9)) (by rw [hRs.2.1 p hp.1 hp.2]; omega)) ?_⟩
    rintro r s1 ⟨y1, y2⟩
    rw [if_pos ⟨h0, by omega⟩, hRs.2.1 p hp.1 hp.2] at y1
    have hs1 := hs.tr y2
    rw [ckO] at hQ
    refine ⟨fun z => ?_, fun z => cI (sp_wrong (by omega) (by rw [y2.fld 2 1 (by decide), e2]; exact hz)) ?_⟩
    · rw [if_pos (by omega)] at hQ
      rw [w32_id (x := o + 1) (by omega) (by omega)]
      exact ih (o + 1) kk s1 (by omega) (by omega) hk hs1 hQ
    · rintro r4 s3 ⟨a1, rfl⟩
      rw [hs1.fld 2 1 (by decide), hs1.cell 3 (by decide), y1] at a1
      rw [if_neg (by omega)] at hQ
      refine ⟨fun z1 => ⟨fun h => absurd h (by omega), fun _ => ?_⟩, fun z1 => ?_⟩
      · rw [if_pos z1] at hQ
        exact hQ s3 hs1
      · rw [if_neg z1] at hQ
        have a2 := a1 (by omega)
        have hw := wr_rg (nb := nbr (C 3)) (t := 3 * kk) (p := p) (o := o) (v := pof o (m.1 p))
        refine ⟨fun z2 => ?_, fun z2 => ⟨fun _ => ?_, fun h => absurd (by omega) h⟩⟩
        · rw [if_pos (by rw [← a2]; exact z2)] at hQ
          rw [w32_id (x := o + 1) (by omega) (by omega), w32_id (x := 3 * kk + 3) (by omega) (by omega), show 3 * kk + 3 = 3 * (kk + 1) by omega]
          rw [show 3 * kk + 3 = 3 * (kk + 1) by omega] at hQ
          exact ih (o + 1) (kk + 1) s3 (by omega) (by omega) (by omega) hs1 hQ
        · rw [if_neg (by rw [← a2]; exact z2)] at hQ
          rw [a2, w32_id (x := 3 * kk + wr (nbr (C 3)) (3 * kk) p o (pof o (m.1 p))) (by omega) (by omega)]
          exact hQ s3 hs1
theorem lp_cwP (hm : MI k m) (hR : RX m C) (h9 : 0 ≤ C 41 9) (hN : C 1 11 = NP) (hNP : NP ≤ 10) (hP : C 4 2 = P) (hPP : P ≤ 10) (hn : 0 ≤ n ∧ n ≤ 33) (hz : C 2 1 ≤ 400) (hz2 : 12 * n ≤ C 2 1) {Q : Option AV → AS → Prop} : ∀ (q : Nat) (p kk : Int) (s : AS), p + q = P → 0 ≤ p → (0 ≤ kk ∧ kk ≤ n) → Fr [51] [] C s →
    (∀ s', Fr [51] [] C s' → Q (some (vI (ckP (nbr (C 3)) (fun p o => pof o (m.1 p)) (3 * n) NP q p (3 * kk)))) s') →
    am_E Ln (d + 3) 122 4 [vR 1, vI (3 * n), vI (3 * kk), vI p, vU, vU, vU] [] s Q := by
  intro q
  induction q with
  | zero =>
    intro p kk s hp h0 hk hs hQ
    have e : s 4 2 = P := by rw [hs.fld 4 2 (by decide)]; exact hP
    have hQs := hQ s hs
    rw [ckP] at hQs
    refine vl_X11_firstWrong_4 _ _ _ _ ?_
    rw [e]
    refine ⟨fun _ => ⟨fun z => ?_, fun z => ?_⟩, fun h => absurd (by omega) h⟩
    · rw [if_pos z] at hQs; exact hQs
    · rw [if_neg z] at hQs; exact hQs
  | succ q ih =>
    intro p kk s hp h0 hk hs hQ
    have e : s 4 2 = P := by rw [hs.fld 4 2 (by decide)]; exact hP
    refine vl_X11_firstWrong_4 _ _ _ _ ?_
    rw [e]
    refine ⟨fun h => absurd h (by omega), fun _ => ?_⟩
    refine lp_cwO hm hR h9 hN hNP hn hz hz2 (by omega) NP 0 kk s (by omega) (by omega) hk hs ?_
    rw [ckP] at hQ
    cases ho : ckO (nbr (C 3)) (fun o => pof o (m.1 p)) (3 * n) p NP 0 (3 * kk) with
    | inl r =>
      rw [ho] at hQ
      exact hQ
    | inr t =>
      rw [ho] at hQ
      intro s' k' hs' ht hk'
      subst ht
      exact ih (p + 1) k' s' (by omega) (by omega) hk' hs' hQ
theorem lp_numAt {s : AS} {f : Int → Int} {i : Int} (hi : 0 ≤ i ∧ 4 * i + 4 ≤ 400) (hf : ∀ j : Int, 4 * i ≤ j → j < 4 * i + 4 → bAnd (s 83 j) 255 = f j) : am_M Ln (d + 1) 241 [vR 82, vI i] s (am_rI fun r s' => r = nbr f i ∧ s' = s) := by
  refine vm_X12_numberAt _ _ ?_
  have e0 : w32 (w32 (4 * i) + 0) = 4 * i := by rw [w32_id (x := 4 * i) (by omega) (by omega), w32_id (by omega) (by omega)]; omega
  have e1 : w32 (w32 (4 * i) + 1) = 4 * i + 1 := by rw [w32_id (x := 4 * i) (by omega) (by omega), w32_id (by omega) (by omega)]
  have e2 : w32 (w32 (4 * i) + 2) = 4 * i + 2 := by rw [w32_id (x := 4 * i) (by omega) (by omega), w32_id (by omega) (by omega)]
  have e3 : w32 (w32 (4 * i) + 3) = 4 * i + 3 := by rw [w32_id (x := 4 * i) (by omega) (by omega), w32_id (by omega) (by omega)]
  refine vl_X12_numberAt_4 _ _ _ _ ⟨fun h => absurd h (by omega), fun _ => ?_⟩
  rw [e0, hf (4 * i) (by omega) (by omega), show w32 (0 + 1) = 1 from rfl]
  refine ⟨by omega, vl_X12_numberAt_4 _ _ _ _ ⟨fun h => absurd h (by omega), fun _ => ?_⟩⟩
  rw [e1, hf (4 * i + 1) (by omega) (by omega), show w32 (1 + 1) = 2 from rfl]
  refine ⟨by omega, vl_X12_numberAt_4 _ _ _ _ ⟨fun h => absurd h (by omega), fun _ => ?_⟩⟩
  rw [e2, hf (4 * i + 2) (by omega) (by omega), show w32 (2 + 1) = 3 from rfl]
  refine ⟨by omega, vl_X12_numberAt_4 _ _ _ _ ⟨fun h => absurd h (by omega), fun _ => ?_⟩⟩
  rw [e3, hf (4 * i + 3) (by omega) (by omega), show w32 (3 + 1) = 4 from rfl]
  refine ⟨by omega, vl_X12_numberAt_4 _ _ _ _ ⟨fun _ => ?_, fun h => absurd (by omega) h⟩⟩
  exact ⟨nb_core _ _ _ _, rfl⟩
theorem lp_cmO {s : AS} {f : Int → Int} {z : Int} (hm : MI k m) (hR : RM m s) (hN : s 82 3 = NP) (hNP : NP ≤ 10) (hn : 0 ≤ n ∧ n ≤ 33) (hz : z ≤ 400) (hz2 : 12 * n ≤ z) (hf : ∀ j : Int, 0 ≤ j → j < z → bAnd (s 83 j) 255 = f j) {p : Int} (hp : 0 ≤ p ∧ p < 10) {Q : Option AV → AS → Prop} : ∀ (q : Nat) (o kk : Int), o + q = NP → 0 ≤ o → (0 ≤ kk ∧ kk ≤ n) →
    Sum.elim (fun r => Q (some (vI r)) s) (fun t => ∀ k', t = 3 * k' → (0 ≤ k' ∧ k' ≤ n) → am_E Ln (d + 1) 242 39 [vR 82, vI n, vI k', vI (p + 1), vU] [] s Q) (ckO (nbr f) (fun o => pof o (m.1 p)) (3 * n) p q o (3 * kk)) →
    am_E Ln (d + 1) 242 50 [vR 82, vI n, vI kk, vI p, vI o] [] s Q := by
  intro q
  induction q with
  | zero =>
    intro o kk ho h0 hk hQ
    refine vl_X12_check_50 _ _ _ _ _ ?_
    rw [hN, w32_id (x := p + 1) (by omega) (by omega)]
    exact ⟨fun _ => hQ kk rfl hk, fun h => absurd (by omega) h⟩
  | succ q ih =>
    intro o kk ho h0 hk hQ
    have hrp := (hR.1 p hp.1 hp.2).1
    refine vl_X12_check_50 _ _ _ _ _ ?_
    rw [hN]
    refine ⟨fun h => absurd h (by omega), fun _ => cI (sp_of hp (RM_T hR hm)) ?_⟩
    rintro r s1 ⟨y1, rfl⟩
    rw [hrp] at y1
    rw [ckO] at hQ
    rw [w32_id (x := o + 1) (by omega) (by omega), w32_id (x := 3 * n) (by omega) (by omega), w32_id (x := 3 * kk) (by omega) (by omega), w32_id (x := 3 * kk + 1) (by omega) (by omega), w32_id (x := 3 * kk + 2) (by omega) (by omega), w32_id (x := kk + 1) (by omega) (by omega)]
    refine ⟨fun z0 => ?_, fun z0 => ⟨fun z1 => ?_, fun z1 => cI (lp_numAt (by omega) (fun j a b => hf j (by omega) (by omega))) ?_⟩⟩
    · rw [if_pos (by omega)] at hQ
      exact ih (o + 1) kk (by omega) (by omega) hk hQ
    · rw [if_neg (by omega), if_pos (by omega)] at hQ
      exact hQ
    · rintro r4 s3 ⟨a4, rfl⟩
      rw [if_neg (by omega), if_neg (by omega)] at hQ
      unfold wr at hQ
      rw [← a4] at hQ
      refine ⟨fun z2 => cI (lp_numAt (by omega) (fun j a b => hf j (by omega) (by omega))) ?_, fun z2 => ?_⟩
      · rintro r6 s5 ⟨a6, rfl⟩
        rw [← a6, if_pos z2] at hQ
        refine ⟨fun z3 => cI (lp_numAt (by omega) (fun j a b => hf j (by omega) (by omega))) ?_, fun z3 => ?_⟩
        · rintro r8 s7 ⟨a8, rfl⟩
          rw [← a8, if_pos z3] at hQ
          refine cI (sp_of hp (RM_T hR hm)) ?_
          rintro r10 s9 ⟨y2, rfl⟩
          rw [hrp] at y2
          refine ⟨fun z4 => ?_, fun z4 => ?_⟩
          · rw [if_pos (by omega), show 3 * kk + 3 = 3 * (kk + 1) by omega] at hQ
            exact ih (o + 1) (kk + 1) (by omega) (by omega) (by omega) hQ
          · rw [if_neg (by omega), if_neg (by omega)] at hQ
            exact hQ
        · rw [if_neg z3, if_neg (by omega)] at hQ
          exact hQ
      · rw [if_neg z2, if_neg (by omega)] at hQ
        have : 3 * kk + 0 = 3 * kk := by omega
        rw [this] at hQ
        exact hQ
theorem lp_cmP {s : AS} {f : Int → Int} {z : Int} (hm : MI k m) (hR : RM m s) (hN : s 82 3 = NP) (hNP : NP ≤ 10) (hP : s 82 4 = P) (hPP : P ≤ 10) (hn : 0 ≤ n ∧ n ≤ 33) (hz : z ≤ 400) (hz2 : 12 * n ≤ z) (hf : ∀ j : Int, 0 ≤ j → j < z → bAnd (s 83 j) 255 = f j) {Q : Option AV → AS → Prop} : ∀ (q : Nat) (p kk : Int), p + q = P → 0 ≤ p → (0 ≤ kk ∧ kk ≤ n) →
    Q (some (vI (ckP (nbr f) (fun p o => pof o (m.1 p)) (3 * n) NP q p (3 * kk)))) s →
    am_E Ln (d + 1) 242 39 [vR 82, vI n, vI kk, vI p, vU] [] s Q := by
  intro q
  induction q with
  | zero =>
    intro p kk hp h0 hk hQ
    rw [ckP] at hQ
    refine vl_X12_check_39 _ _ _ _ ?_
    rw [hP, w32_id (x := 3 * kk) (by omega) (by omega)]
    refine ⟨fun _ => ⟨fun z => ?_, fun z => ?_⟩, fun h => absurd (by omega) h⟩
    · rw [if_pos (by omega)] at hQ; exact hQ
    · rw [if_neg (by omega)] at hQ; exact hQ
  | succ q ih =>
    intro p kk hp h0 hk hQ
    refine vl_X12_check_39 _ _ _ _ ?_
    rw [hP]
    refine ⟨fun h => absurd h (by omega), fun _ => ?_⟩
    refine lp_cmO hm hR hN hNP hn hz hz2 hf (by omega) NP 0 kk (by omega) (by omega) hk ?_
    rw [ckP] at hQ
    cases ho : ckO (nbr f) (fun o => pof o (m.1 p)) (3 * n) p NP 0 (3 * kk) with
    | inl r =>
      rw [ho] at hQ
      exact hQ
    | inr t =>
      rw [ho] at hQ
      intro k' ht hk'
      subst ht
      exact ih (p + 1) k' (by omega) (by omega) hk' hQ
end CK
theorem INV_noT {σ : AS} {n : Nat} {G : Int → GF} (hI : INV σ n G) : INV (noT σ) n G := by
  obtain ⟨h1, h2, h3, h4, h5, h6, h7, h8⟩ := id hI
  have fτ : Fr [] [(2, 1), (82, 1)] σ (noT σ) := Fr.up (Fr.up Fr.rf (Or.inr (by decide))) (Or.inr (by decide))
  exact ⟨OKB_up h1 (BK_up [] [((82, 1), (2, 1))] h1.1 fτ (by decide) (by decide) no_mem (one_mem rfl)) (by rw [fτ.fld 1 11 (by decide)]; exact h1.2.1) (Nat.le_refl n) h1.2.2.1 (by rw [fτ.fld 19 4 (by decide)]; exact h1.2.2.2.1) (fτ.fld 7 11 (by decide)) (fτ.cs _ (by decide)) (by rw [fτ.cell 5 (by decide)]; exact OKB_5 h1), OKD_cg (fτ.cell 13 (by decide)) (fτ.fld 7 11 (by decide)) h2, RB_cg (fτ.cs RBC (by decide)) (fτ.fld 24 14 (by decide)) h3, NU_cg (fτ.cell 5 (by decide)) (fτ.cell 121 (by decide)) (fτ.fls _ (by decide)) h4, ⟨by show (0 : Int) ≤ 0 ∧ (0 : Int) ≤ 400; omega, fun i ha hb => absurd (show i < 0 from hb) (by omega)⟩, CH_cg (fτ.cell 71 (by decide)) (fτ.cell 129 (by decide)) (fτ.fld 4 2 (by decide)) (fτ.fld 70 4 (by decide)) h6, BA_cg (fτ.cs BAC (by decide)) (fτ.fld 70 6 (by decide)) h7, DE_cg (fτ.cs DEC (by decide)) (fτ.fld 76 3 (by decide)) h8.1, TH_cg (fτ.fld 7 11 (by decide)) (Int.le_of_eq (fτ.fld 1 12 (by decide)).symm) (fτ.cell 8 (by decide)) (fτ.cell 10 (by decide)) (fτ.cell 14 (by decide)) (fτ.cell 15 (by decide)) h8.2⟩
theorem pr_check {Ln : Int} {σ : AS} {n : Nat} {G : Int → GF} (hI : INV σ n G) (a : Int) : PR Ln 119 [vR 1, vI a] 242 [vR 82, vI a] σ := by
  obtain ⟨k, hk, hm, hmn⟩ := mAll_ok0 (F := findF σ G) (dd := σ 1 10) (t := σ 1 10) hI.1
  have hI' := INV_noT hI
  have hn1 := hI.1.2.1
  have hn2 := hI.1.2.2.1
  have hP := hI.2.2.2.1.2.1
  have hB := hI.1.1
  have e1 : σ 82 1 = σ 2 1 := hB.2.2.1
  have e2 : σ 82 2 = σ 1 10 := hB.2.2.2.1
  obtain ⟨⟨t1, t2⟩, t3⟩ := id hI.2.2.2.2.1
  have hd : Int.tdiv (σ 2 1) 12 = σ 2 1 / 12 := Int.tdiv_eq_ediv_of_nonneg t1
  obtain ⟨P, hPn⟩ : ∃ P : Nat, σ 4 2 = P := ⟨(σ 4 2).toNat, by omega⟩
  by_cases hc : 0 ≤ a ∧ a ≤ σ 2 1 / 12
  · have h12 : 12 * a ≤ σ 2 1 := by omega
    have hcl : am_M Ln 1000 119 [vR 1, vI a] σ (am_rI fun r s => r = ckP (nbr (σ 3)) (fun p o => pof o ((mAll σ (findF σ G) (σ 1 10) (σ 1 10)).1 p)) (3 * a) n P 0 (3 * 0) ∧ Fr clX ((2, 1) :: clF) σ s ∧ s 2 1 = 0) := by
      refine vm_X11_check _ _ ⟨fun h => absurd h (by omega), fun _ => ⟨by decide, ⟨fun _ => cV (c_playAll hI) ?_, fun h => absurd ?_ h⟩⟩⟩
      · rintro s1 ⟨x1, x2, x3, -⟩
        rw [w32_id (x := 3 * a) (by omega) (by omega)]
        refine cI (P := fun r s => r = ckP (nbr (σ 3)) (fun p o => pof o ((mAll σ (findF σ G) (σ 1 10) (σ 1 10)).1 p)) (3 * a) n P 0 (3 * 0) ∧ Fr [51] [] s1 s) (vm_X11_firstWrong _ _ ?_) ?_
        · have e3 : s1 3 = σ 3 := x2.cell 3 (by decide)
          have e21 : s1 2 1 = σ 2 1 := x2.fld 2 1 (by decide)
          refine lp_cwP (d := 995) hm x1 x3 (by rw [x2.fld 1 11 (by decide)]; exact hn1) hn2 (by rw [x2.fld 4 2 (by decide)]; exact hPn) (by omega) (by omega) (by rw [e21]; exact t2) (by rw [e21]; exact h12) P 0 0 s1 (by omega) (by omega) (by omega) Fr.rf (fun s' hs' => ?_)
          rw [e3]
          exact ⟨rfl, hs'⟩
        · rintro r s ⟨y1, y2⟩
          refine ⟨y1, ?_, by rw [am_up_eq, if_pos rfl]⟩
          exact Fr.up ((x2.mo (by decide) (by decide)).tr (y2.mo (by decide) (by decide))) (Or.inr (by decide))
      · rw [hd, w32_id (by omega) (by omega)]; exact hc.2
    refine am_MI hcl ?_
    rintro r s ⟨y1, y2, y3⟩
    have e82 : s 82 1 = σ 82 1 := y2.fld 82 1 (by decide)
    refine ⟨y2.cell 0 (by decide), ?_⟩
    have hs' : Fr clX clF (noT σ) (am_up s 82 1 0) := by
      intro c i b1 b2
      by_cases ec : c = 82
      · subst ec
        rw [am_up_eq]
        show _ = am_up (am_up σ 2 1 0) 82 1 0 82 i
        rw [am_up_eq, am_up_ne (by decide)]
        by_cases ei : i = 1
        · rw [if_pos ei, if_pos ei]
        · rw [if_neg ei, if_neg ei]
          exact y2 82 i b1 (by simp only [List.mem_cons, not_or]; exact ⟨by simp, b2⟩)
      · rw [am_up_ne ec]
        show _ = am_up (am_up σ 2 1 0) 82 1 0 c i
        rw [am_up_ne ec]
        by_cases e2 : c = 2 ∧ i = 1
        · obtain ⟨rfl, rfl⟩ := e2
          rw [y3, am_up_eq, if_pos rfl]
        · rw [y2 c i b1 (by simp only [List.mem_cons, not_or]; exact ⟨by simpa using e2, b2⟩)]
          by_cases e3 : c = 2
          · subst e3
            rw [am_up_eq, if_neg (fun q => e2 ⟨rfl, q⟩)]
          · rw [am_up_ne e3]
    have hmd : am_M Ln 1000 242 [vR 82, vI a] s (am_rI fun r s' => r = ckP (nbr (σ 3)) (fun p o => pof o ((mAll σ (findF σ G) (σ 1 10) (σ 1 10)).1 p)) (3 * a) n P 0 (3 * 0) ∧ Fr pmX pmF (am_up s 82 1 0) s') := by
      refine vm_X12_check _ _ ?_
      rw [e82, e1, y2.fld 82 2 (by decide), e2]
      refine ⟨fun h => absurd h (by omega), fun _ => ⟨by decide, ⟨fun _ => cV (m_plays hI' hs' (by decide) (by decide) (hs'.cell 121 (by decide))) ?_, fun h => absurd ?_ h⟩⟩⟩
      · rintro s1 ⟨x1, x2⟩
        rw [mAll_up] at x1
        have g2 : Fr wkX wkF (noT σ) s1 := (hs'.mo (by decide) (by decide)).tr (x2.mo (by decide) (by decide))
        refine lp_cmP (f := σ 3) (z := σ 2 1) hm x1 (by rw [g2.fld 82 3 (by decide)]; exact (hB.2.2.2.2.1).trans hn1) hn2 (by rw [g2.fld 82 4 (by decide)]; exact (hB.2.2.2.2.2.1).trans hPn) (by omega) (by omega) t2 h12 (fun j u v => ?_) P 0 0 (by omega) (by omega) (by omega) ⟨rfl, x2⟩
        rw [g2.cell 83 (by decide)]
        exact (t3 j u v).2
      · rw [hd, w32_id (by omega) (by omega)]; exact hc.2
    refine am_MI hmd ?_
    rintro r' s' ⟨z1, z2⟩
    refine ⟨by rw [z1, y1], ?_, n, G, INV_fr (INV_fr hI' hs' (by decide)) z2 (by decide)⟩
    rw [z2.cell 0 (by decide), hs'.cell 0 (by decide)]
    rfl
  · refine pr_up (c := False) (v := 0) (w := -2) (σu := σ) (σw := σ) hI rfl rfl ?_ (fun h => absurd h id) (fun _ => ?_) (fun h => absurd h id)
    · refine vm_X11_check _ _ ⟨fun _ => upN id, fun h0 => ⟨by decide, ⟨fun h => absurd ?_ hc, fun _ => upN id⟩⟩⟩
      rw [hd, w32_id (by omega) (by omega)] at h
      exact ⟨by omega, h⟩
    · refine vm_X12_check _ _ ?_
      rw [e1]
      refine ⟨fun _ => ⟨rfl, rfl⟩, fun h0 => ⟨by decide, ⟨fun h => absurd ?_ hc, fun _ => ⟨rfl, rfl⟩⟩⟩⟩
      rw [hd, w32_id (by omega) (by omega)] at h
      exact ⟨by omega, h⟩
