/-! ways that bar one another -/
theorem lv_nat {x : Nat} (h : x < 9223372036854775808) : (BitVec.ofInt 64 (x : Int)).toNat = x := by
  rw [BitVec.ofInt_natCast, BitVec.toNat_ofNat, Nat.mod_eq_of_lt (by omega)]
theorem lv_int {b : BitVec 64} {x : Nat} (h : b.toNat = x) (hx : x < 9223372036854775808) : b.toInt = x := by
  rw [BitVec.toInt_eq_toNat_of_lt (by rw [h]; omega), h]
theorem lAnd_nat {x y : Nat} (hx : x < 9223372036854775808) (hy : y < 9223372036854775808) : lAnd x y = ((x &&& y : Nat) : Int) := by
  show (BitVec.ofInt 64 x &&& BitVec.ofInt 64 y).toInt = _
  exact lv_int (by rw [BitVec.toNat_and, lv_nat hx, lv_nat hy]) (Nat.lt_of_le_of_lt Nat.and_le_left hx)
theorem lOr_nat {x y : Nat} (hx : x < 9223372036854775808) (hy : y < 9223372036854775808) : lOr x y = ((x ||| y : Nat) : Int) := by
  show (BitVec.ofInt 64 x ||| BitVec.ofInt 64 y).toInt = _
  exact lv_int (by rw [BitVec.toNat_or, lv_nat hx, lv_nat hy]) (Nat.or_lt_two_pow (n := 63) hx hy)
theorem lshamt : ∀ s : Fin 64, (((BitVec.ofNat 32 s.val).signExtend 64 &&& 63#64).smod 64#64) = BitVec.ofNat 64 s.val := by decide +kernel
theorem lShl_one : ∀ s : Fin 50, lShl 1 (s.val : Int) = ((2 ^ s.val : Nat) : Int) := by decide +kernel
theorem lShr_nat {x s : Nat} (hs : s < 64) (hx : x < 9223372036854775808) : lShr x s = ((x >>> s : Nat) : Int) := by
  show (BitVec.sshiftRight' (BitVec.ofInt 64 x) (((BitVec.ofInt 32 s).signExtend 64 &&& 63#64).smod 64#64)).toInt = _
  rw [BitVec.ofInt_natCast, BitVec.ofInt_natCast, lshamt ⟨s, hs⟩]
  have hm : (BitVec.ofNat 64 x).msb = false := by
    rw [BitVec.msb_eq_false_iff_two_mul_lt, BitVec.toNat_ofNat, Nat.mod_eq_of_lt (Nat.lt_trans hx (by decide))]
    omega
  refine lv_int ?_ (by rw [Nat.shiftRight_eq_div_pow]; exact Nat.lt_of_le_of_lt (Nat.div_le_self _ _) hx)
  show ((BitVec.ofNat 64 x).sshiftRight (BitVec.ofNat 64 s).toNat).toNat = _
  rw [BitVec.sshiftRight_eq_of_msb_false hm, BitVec.toNat_ushiftRight, BitVec.toNat_ofNat, BitVec.toNat_ofNat, Nat.mod_eq_of_lt (by omega : s < 2 ^ 64), Nat.mod_eq_of_lt (Nat.lt_trans hx (by decide))]
theorem lbit_get {x j : Nat} (hj : j < 50) (hx : x < 2 ^ 50) : lAnd (lShr x j) 1 = if x.testBit j = true then 1 else 0 := by
  have hx2 : x < 9223372036854775808 := Nat.lt_trans hx (by decide)
  have h1 : x >>> j < 9223372036854775808 := by rw [Nat.shiftRight_eq_div_pow]; exact Nat.lt_of_le_of_lt (Nat.div_le_self _ _) hx2
  rw [lShr_nat (by omega) hx2, show (1 : Int) = ((1 : Nat) : Int) from rfl, lAnd_nat h1 (by decide), Nat.and_one_is_mod, Nat.shiftRight_eq_div_pow, Nat.testBit_eq_decide_div_mod_eq]
  by_cases h : x / 2 ^ j % 2 = 1
  · rw [h, decide_eq_true rfl]; rfl
  · rw [decide_eq_false h, if_neg (by decide)]
    have : x / 2 ^ j % 2 = 0 := by omega
    rw [this]
    rfl
theorem lbit_set {x j : Nat} (hj : j < 50) (hx : x < 2 ^ 50) : ∃ y : Nat, lOr x (lShl 1 j) = y ∧ y < 2 ^ 50 ∧ ∀ i, y.testBit i = (x.testBit i || decide (i = j)) := by
  have h2 : 2 ^ j < 2 ^ 50 := Nat.pow_lt_pow_right (by omega) hj
  refine ⟨x ||| 2 ^ j, ?_, Nat.or_lt_two_pow (n := 50) hx h2, fun i => ?_⟩
  · rw [lShl_one ⟨j, hj⟩]
    exact lOr_nat (Nat.lt_trans hx (by decide)) (Nat.lt_trans h2 (by decide))
  · rw [Nat.testBit_or, Nat.testBit_two_pow]
    congr 1
    simp [eq_comm]
theorem rl_any {n : Int} {f : Int → Bool} : (rl n f).any id = true ↔ ∃ i, 0 ≤ i ∧ i < n ∧ f i = true := by
  rw [List.any_eq_true]
  constructor
  · rintro ⟨x, hx, hx2⟩
    obtain ⟨i, h1, h2, h3⟩ := rl_mem.mp hx
    exact ⟨i, h1, h2, by rw [h3]; exact hx2⟩
  · rintro ⟨i, h1, h2, h3⟩
    exact ⟨f i, rl_mem.mpr ⟨i, h1, h2, rfl⟩, h3⟩
theorem brd_iff {σ : AS} {k a b : Int} : brd σ k a b = true ↔ ∃ i, 0 ≤ i ∧ i < k ∧ ((5 * σ 130 i + σ 131 i = a ∧ 5 * σ 132 i + σ 133 i = b) ∨ (5 * σ 130 i + σ 131 i = b ∧ 5 * σ 132 i + σ 133 i = a)) := by
  unfold brd
  rw [rl_any]
  constructor
  · rintro ⟨i, h1, h2, h3⟩
    exact ⟨i, h1, h2, of_decide_eq_true h3⟩
  · rintro ⟨i, h1, h2, h3⟩
    exact ⟨i, h1, h2, decide_eq_true h3⟩
section BR
variable {Ln : Int} {d : Nat} {σ : AS}
theorem sp_cBarred (h : BA σ) {a b : Int} (ha : 0 ≤ a ∧ a < 50) (hb : 0 ≤ b ∧ b < 50) : am_M Ln (d + 1) 3 [vR 70, vI a, vI b] σ (am_rI fun r s => r = (if brd σ (σ 70 6) a b = true then 1 else 0) ∧ s = σ) := by
  obtain ⟨x, hx, hx2, hx3⟩ := h.2.2 a ha.1 ha.2
  obtain ⟨b', rfl⟩ : ∃ b' : Nat, b = b' := ⟨b.toNat, by omega⟩
  have hb' : b' < 50 := by omega
  refine vm_X0_isBarred _ _ _ ⟨ha, ?_⟩
  rw [hx, lbit_get hb' hx2, hx3 b' hb']
  refine ⟨fun q => ⟨am_b0, ?_, rfl⟩, fun q => ⟨am_b1, ?_, rfl⟩⟩
  · by_cases z : brd σ (σ 70 6) a b' = true
    · rw [if_pos z] at q; exact absurd q (by decide)
    · rw [if_neg z]
  · by_cases z : brd σ (σ 70 6) a b' = true
    · rw [if_pos z]
    · rw [if_neg z] at q; exact absurd rfl q
theorem lp_mBarred {p w q v k : Int} (h10 : σ 82 10 = k) (hk : k ≤ 40) (hr : ∀ i : Int, 0 ≤ i → i < k → (0 ≤ σ 131 i ∧ σ 131 i < 5) ∧ (0 ≤ σ 133 i ∧ σ 133 i < 5)) (hw : 0 ≤ w ∧ w < 5) (hv : 0 ≤ v ∧ v < 5) {Q : Option AV → AS → Prop} (hT : brd σ k (5 * p + w) (5 * q + v) = true → Q (some (vI 1)) σ) (hF : ¬ brd σ k (5 * p + w) (5 * q + v) = true → Q (some (vI 0)) σ) :
    ∀ (m : Nat) (i : Int), 0 ≤ i → k ≤ i + m → (∀ j : Int, 0 ≤ j → j < i → ¬ ((σ 130 j = p ∧ σ 131 j = w ∧ σ 132 j = q ∧ σ 133 j = v) ∨ (σ 130 j = q ∧ σ 131 j = v ∧ σ 132 j = p ∧ σ 133 j = w))) → am_E Ln d 225 3 [vR 82, vI p, vI w, vI q, vI v, vI i] [] σ Q := by
  intro m
  induction m with
  | zero =>
    intro i h0 hi hn
    refine vl_X12_isBarred_3 _ _ _ _ _ _ ?_
    rw [h10]
    refine ⟨fun _ => ⟨am_b0, hF (fun z => ?_)⟩, fun z => absurd (by omega) z⟩
    obtain ⟨j, j1, j2, j3⟩ := brd_iff.mp z
    have := hn j j1 (by omega)
    have := hr j j1 j2
    omega
  | succ m ih =>
    intro i h0 hi hn
    refine vl_X12_isBarred_3 _ _ _ _ _ _ ?_
    rw [h10]
    refine ⟨fun _ => ⟨am_b0, hF (fun z => ?_)⟩, fun z => ?_⟩
    · obtain ⟨j, j1, j2, j3⟩ := brd_iff.mp z
      have := hn j j1 (by omega)
      have := hr j j1 j2
      omega
    · have ri : 0 ≤ i ∧ i < 40 := by omega
      have hT' : ((σ 130 i = p ∧ σ 131 i = w ∧ σ 132 i = q ∧ σ 133 i = v) ∨ (σ 130 i = q ∧ σ 131 i = v ∧ σ 132 i = p ∧ σ 133 i = w)) → (am_b 1 ∧ Q (some (vI 1)) σ) := fun e => ⟨am_b1, hT (brd_iff.mpr ⟨i, h0, by omega, by omega⟩)⟩
      have hN : ¬ ((σ 130 i = p ∧ σ 131 i = w ∧ σ 132 i = q ∧ σ 133 i = v) ∨ (σ 130 i = q ∧ σ 131 i = v ∧ σ 132 i = p ∧ σ 133 i = w)) → am_E Ln d 225 3 [vR 82, vI p, vI w, vI q, vI v, vI (w32 (i + 1))] [] σ Q := by
        intro e
        rw [w32_id (by omega) (by omega)]
        refine ih (i + 1) (by omega) (by omega) (fun j a b => ?_)
        by_cases ej : j = i
        · rw [ej]; exact e
        · exact hn j a (by omega)
      repeat' (first | (apply hT'; omega) | (apply hN; omega) | apply And.intro ri | (apply And.intro <;> intro _))
theorem sp_mBarred {p w q v k : Int} (h10 : σ 82 10 = k) (hk : k ≤ 40) (hr : ∀ i : Int, 0 ≤ i → i < k → (0 ≤ σ 131 i ∧ σ 131 i < 5) ∧ (0 ≤ σ 133 i ∧ σ 133 i < 5)) (hw : 0 ≤ w ∧ w < 5) (hv : 0 ≤ v ∧ v < 5) : am_M Ln (d + 1) 225 [vR 82, vI p, vI w, vI q, vI v] σ (am_rI fun r s => r = (if brd σ k (5 * p + w) (5 * q + v) = true then 1 else 0) ∧ s = σ) :=
  vm_X12_isBarred _ _ _ _ _ (lp_mBarred h10 hk hr hw hv (fun z => ⟨by rw [if_pos z], rfl⟩) (fun z => ⟨by rw [if_neg z], rfl⟩) k.toNat 0 (by omega) (by omega) (fun j a b => absurd a (by omega)))
end BR
theorem pr_bar {Ln : Int} {σ : AS} {n : Nat} {G : Int → GF} (hI : INV σ n G) (p w q v : Int) : PR Ln 113 [vR 1, vI p, vI w, vI q, vI v] 226 [vR 82, vI p, vI w, vI q, vI v] σ := by
  obtain ⟨h1, h2, h3, h4, h5, h6, h7, h8⟩ := id hI
  have hB := h1.1
  have e10 : σ 82 10 = σ 70 6 := hB.2.2.2.2.2.2.2.2.2.2.2
  obtain ⟨hk, hr, hbt⟩ := id h7
  have hP := h4.2.1
  have fw : Fr wkX wkF σ σ := Fr.rf
  obtain ⟨k, hkk⟩ : ∃ k, k = σ 70 6 := ⟨_, rfl⟩
  obtain ⟨a, ha⟩ : ∃ a, a = 5 * p + w := ⟨_, rfl⟩
  obtain ⟨b, hb⟩ : ∃ b, b = 5 * q + v := ⟨_, rfl⟩
  rw [← hkk] at hk hr hbt e10
  obtain ⟨ρ, hρ⟩ : ∃ ρ, ρ = am_up (am_up (am_up σ 72 a (lOr (σ 72 a) (lShl 1 b))) 72 b (lOr (am_up σ 72 a (lOr (σ 72 a) (lShl 1 b)) 72 b) (lShl 1 a))) 70 6 (k + 1) := ⟨_, rfl⟩
  obtain ⟨τ, hτ⟩ : ∃ τ, τ = am_up (am_up (am_up (am_up (am_up ρ 130 k p) 131 k w) 132 k q) 133 k v) 82 10 (k + 1) := ⟨_, rfl⟩
  have fρ : Fr [72] [(70, 6)] σ ρ := by rw [hρ]; exact Fr.up (Fr.up (Fr.up Fr.rf (Or.inl (by decide))) (Or.inl (by decide))) (Or.inr (by decide))
  have fτ : Fr [72, 130, 131, 132, 133] [(70, 6), (82, 10)] σ τ := by rw [hτ]; exact Fr.up (Fr.up (Fr.up (Fr.up (Fr.up (fρ.mo (by decide) (by decide)) (Or.inl (by decide))) (Or.inl (by decide))) (Or.inl (by decide))) (Or.inl (by decide))) (Or.inr (by decide))
  have hr2 : ∀ s : AS, s 131 = σ 131 → s 133 = σ 133 → ∀ i : Int, 0 ≤ i → i < k → (0 ≤ s 131 i ∧ s 131 i < 5) ∧ (0 ≤ s 133 i ∧ s 133 i < 5) := fun s x1 x2 i a b => by rw [x1, x2]; exact ⟨(hr i a b).2.1, (hr i a b).2.2.2⟩
  refine pr_up (c := (0 ≤ p ∧ p < σ 4 2) ∧ (0 ≤ w ∧ w < 5) ∧ (0 ≤ q ∧ q < σ 4 2) ∧ (0 ≤ v ∧ v < 5) ∧ p ≠ q ∧ ¬ brd σ k a b = true ∧ k < 40) (v := 1) (w := 0) (σu := ρ) (σw := τ) hI (fρ.cell 0 (by decide)) (fτ.cell 0 (by decide)) ?_ (fun hc => ?_) (fun hc => ?_) (fun hc => ⟨n, G, ?_⟩)
  · refine vm_X11_bar _ _ _ _ _ (cG sp_cPurse (fun h => ⟨am_b0, upN (fun z => h z.1)⟩) (fun g1 => cG sp_cWay (fun h => ⟨am_b0, upN (fun z => h z.2.1)⟩) (fun g2 => cG sp_cPurse (fun h => ⟨am_b0, upN (fun z => h z.2.2.1)⟩) (fun g3 => cG sp_cWay (fun h => ⟨am_b0, upN (fun z => h z.2.2.2.1)⟩) (fun g4 => ⟨fun h => ⟨am_b0, upN (fun z => z.2.2.2.2.1 h)⟩, fun g5 => ?_⟩)))))
    rw [w32_id (x := p * 5) (by omega) (by omega), w32_id (x := p * 5 + w) (by omega) (by omega), w32_id (x := q * 5) (by omega) (by omega), w32_id (x := q * 5 + v) (by omega) (by omega), show p * 5 + w = a by omega, show q * 5 + v = b by omega]
    refine cI (P := upF ((0 ≤ p ∧ p < σ 4 2) ∧ (0 ≤ w ∧ w < 5) ∧ (0 ≤ q ∧ q < σ 4 2) ∧ (0 ≤ v ∧ v < 5) ∧ p ≠ q ∧ ¬ brd σ k a b = true ∧ k < 40) 1 0 σ ρ) (vm_X0_addBar _ _ _ (cG (sp_cBarred h7 (by omega) (by omega)) (fun hnb => ?_) (fun hy => ⟨am_b0, upN (fun z => z.2.2.2.2.2.1 (by rw [hkk]; exact hy))⟩))) ?_
    · rw [← hkk] at hnb ⊢
      rw [w32_id (x := k + 1) (by omega) (by omega), ← hρ]
      exact ⟨fun h => ⟨by omega, by omega, by omega, by omega, am_b1, upY ⟨g1, g2, g3, g4, g5, hnb, h⟩⟩, fun h => ⟨am_b0, upN (fun z => h z.2.2.2.2.2.2)⟩⟩
    · intro r s hrs
      refine ⟨?_, hrs⟩
      by_cases z : (0 ≤ p ∧ p < σ 4 2) ∧ (0 ≤ w ∧ w < 5) ∧ (0 ≤ q ∧ q < σ 4 2) ∧ (0 ≤ v ∧ v < 5) ∧ p ≠ q ∧ ¬ brd σ k a b = true ∧ k < 40
      · rw [(hrs.1 z).1]; exact am_b1
      · rw [(hrs.2 z).1]; exact am_b0
  · obtain ⟨c1, c2, c3, c4, c5, c6, c7⟩ := hc
    have e10' : ρ 82 10 = k := by rw [fρ.fld 82 10 (by decide), e10]
    have e4 : ρ 82 4 = σ 4 2 := by rw [fρ.fld 82 4 (by decide)]; exact hB.2.2.2.2.2.1
    have pur : ∀ x : Int, am_M Ln 999 137 [vR 82, vI x] ρ (am_rI fun r s => r = (if 0 ≤ x ∧ x < σ 4 2 then 1 else 0) ∧ s = ρ) := by
      intro x
      refine sp_mlb (d := 997) (a := x) (lo := 0) (hi := σ 4 2 - 1) (by omega) (fun Q h => vm_X12_isPurse _ _ ?_)
      rw [e4, w32_id (by omega) (by omega)]
      exact h
    refine vm_X12_bar _ _ _ _ _ ?_
    rw [e10']
    refine ⟨fun h => absurd h (by omega), fun _ => cG (pur p) (fun h => absurd c1 h) (fun _ => cG (pur q) (fun h => absurd c3 h) (fun _ => ⟨fun h => absurd h c5, fun _ => cG sp_mWay (fun h => absurd c2 h) (fun _ => cG sp_mWay (fun h => absurd c4 h) (fun _ => cG (sp_mBarred e10' (by omega) (hr2 ρ (fρ.cell 131 (by decide)) (fρ.cell 133 (by decide))) c2 c4) (fun _ => ?_) (fun h => ?_)))⟩))⟩
    · rw [e10', w32_id (x := k + 1) (by omega) (by omega), ← hτ]
      have rk : 0 ≤ k ∧ k < 40 := ⟨hk.1, c7⟩
      exact ⟨rk, rk, rk, rk, am_b1, rfl, rfl⟩
    · refine absurd h ?_
      have : brd ρ k (5 * p + w) (5 * q + v) = brd σ k a b := by
        unfold brd
        rw [fρ.cell 130 (by decide), fρ.cell 131 (by decide), fρ.cell 132 (by decide), fρ.cell 133 (by decide), ← ha, ← hb]
      rw [this]
      exact c6
  · refine vm_X12_bar _ _ _ _ _ ?_
    rw [e10]
    refine ⟨fun _ => ⟨am_b0, rfl, rfl⟩, fun g0 => cG (sp_mPurse hB fw (by omega)) (fun h => ⟨am_b0, rfl, rfl⟩) (fun g1 => cG (sp_mPurse hB fw (by omega)) (fun h => ⟨am_b0, rfl, rfl⟩) (fun g2 => ⟨fun _ => ⟨am_b0, rfl, rfl⟩, fun g3 => cG sp_mWay (fun h => ⟨am_b0, rfl, rfl⟩) (fun g4 => cG sp_mWay (fun h => ⟨am_b0, rfl, rfl⟩) (fun g5 => cG (sp_mBarred e10 (by omega) (hr2 σ rfl rfl) g4 g5) (fun hnb => absurd ⟨g1, g4, g2, g5, g3, by rw [ha, hb]; exact hnb, by omega⟩ hc) (fun _ => ⟨am_b0, rfl, rfl⟩)))⟩))⟩
  · obtain ⟨c1, c2, c3, c4, c5, c6, c7⟩ := hc
    have q72 : ∀ j, τ 72 j = if j = b then lOr (σ 72 b) (lShl 1 a) else if j = a then lOr (σ 72 a) (lShl 1 b) else σ 72 j := by
      intro j
      rw [hτ, am_up_ne (by decide), am_up_ne (by decide), am_up_ne (by decide), am_up_ne (by decide), am_up_ne (by decide), hρ, am_up_ne (by decide), am_up_eq, am_up_eq, am_up_eq, if_neg (show ¬ b = a by omega)]
    have q130 : ∀ j, τ 130 j = if j = k then p else σ 130 j := fun j => by rw [hτ, am_up_ne (by decide), am_up_ne (by decide), am_up_ne (by decide), am_up_ne (by decide), am_up_eq, fρ.cell 130 (by decide)]
    have q131 : ∀ j, τ 131 j = if j = k then w else σ 131 j := fun j => by rw [hτ, am_up_ne (by decide), am_up_ne (by decide), am_up_ne (by decide), am_up_eq, am_up_ne (by decide), fρ.cell 131 (by decide)]
    have q132 : ∀ j, τ 132 j = if j = k then q else σ 132 j := fun j => by rw [hτ, am_up_ne (by decide), am_up_ne (by decide), am_up_eq, am_up_ne (by decide), am_up_ne (by decide), fρ.cell 132 (by decide)]
    have q133 : ∀ j, τ 133 j = if j = k then v else σ 133 j := fun j => by rw [hτ, am_up_ne (by decide), am_up_eq, am_up_ne (by decide), am_up_ne (by decide), am_up_ne (by decide), fρ.cell 133 (by decide)]
    have t706 : τ 70 6 = k + 1 := by rw [hτ, am_up_ne (by decide), am_up_ne (by decide), am_up_ne (by decide), am_up_ne (by decide), am_up_ne (by decide), hρ, am_up_eq, if_pos rfl]
    have t8210 : τ 82 10 = k + 1 := by rw [hτ, am_up_eq, if_pos rfl]
    have brs : ∀ x y : Int, brd τ (k + 1) x y = (brd σ k x y || decide ((a = x ∧ b = y) ∨ (a = y ∧ b = x))) := by
      intro x y
      unfold brd
      rw [rl_succ _ hk.1, List.any_append, q130, q131, q132, q133, if_pos rfl, if_pos rfl, if_pos rfl, if_pos rfl, ← ha, ← hb]
      congr 1
      · congr 1
        refine rl_congr (fun i i0 i1 => ?_)
        rw [q130, q131, q132, q133, if_neg (by omega), if_neg (by omega), if_neg (by omega), if_neg (by omega)]
      · simp
    refine ⟨OKB_up h1 (BK_up [] [((82, 10), (70, 6))] h1.1 fτ (by decide) (by decide) no_mem (one_mem (by show τ 82 10 = τ 70 6; rw [t706, t8210]))) (by rw [fτ.fld 1 11 (by decide)]; exact h1.2.1) (Nat.le_refl n) h1.2.2.1 (by rw [fτ.fld 19 4 (by decide)]; exact h1.2.2.2.1) (fτ.fld 7 11 (by decide)) (fτ.cs _ (by decide)) (by rw [fτ.cell 5 (by decide)]; exact OKB_5 h1), OKD_cg (fτ.cell 13 (by decide)) (fτ.fld 7 11 (by decide)) h2, RB_cg (fτ.cs RBC (by decide)) (fτ.fld 24 14 (by decide)) h3, NU_cg (fτ.cell 5 (by decide)) (fτ.cell 121 (by decide)) (fτ.fls _ (by decide)) h4, TP_cg (fτ.cell 3 (by decide)) (fτ.cell 83 (by decide)) (fτ.fld 2 1 (by decide)) h5, CH_cg (fτ.cell 71 (by decide)) (fτ.cell 129 (by decide)) (fτ.fld 4 2 (by decide)) (fτ.fld 70 4 (by decide)) h6, ⟨by rw [t706]; omega, fun i i0 i1 => ?_, fun x x0 x1 => ?_⟩, DE_cg (fτ.cs DEC (by decide)) (fτ.fld 76 3 (by decide)) h8.1, TH_cg (fτ.fld 7 11 (by decide)) (Int.le_of_eq (fτ.fld 1 12 (by decide)).symm) (fτ.cell 8 (by decide)) (fτ.cell 10 (by decide)) (fτ.cell 14 (by decide)) (fτ.cell 15 (by decide)) h8.2⟩
    · rw [t706] at i1
      rw [q130, q131, q132, q133]
      by_cases e : i = k
      · rw [if_pos e, if_pos e, if_pos e, if_pos e]; omega
      · rw [if_neg e, if_neg e, if_neg e, if_neg e]; exact hr i i0 (by omega)
    · rw [t706, q72]
      obtain ⟨A, hA, hA2, hA3⟩ := hbt a (by omega) (by omega)
      obtain ⟨B, hB', hB2, hB3⟩ := hbt b (by omega) (by omega)
      obtain ⟨an, rfl⟩ : ∃ an : Nat, a = an := ⟨a.toNat, by omega⟩
      obtain ⟨bn, rfl⟩ : ∃ bn : Nat, b = bn := ⟨b.toNat, by omega⟩
      by_cases e1 : x = bn
      · rw [if_pos e1, hB']
        obtain ⟨y, y1, y2, y3⟩ := lbit_set (j := an) (x := B) (by omega) hB2
        refine ⟨y, y1, y2, fun z hz => ?_⟩
        rw [y3, hB3 z hz, brs, e1]
        congr 1
        exact decide_eq_decide.mpr (by omega)
      · rw [if_neg e1]
        by_cases e2 : x = an
        · rw [if_pos e2, hA]
          obtain ⟨y, y1, y2, y3⟩ := lbit_set (j := bn) (x := A) (by omega) hA2
          refine ⟨y, y1, y2, fun z hz => ?_⟩
          rw [y3, hA3 z hz, brs, e2]
          congr 1
          exact decide_eq_decide.mpr (by omega)
        · rw [if_neg e2]
          obtain ⟨y, y1, y2, y3⟩ := hbt x x0 x1
          refine ⟨y, y1, y2, fun z hz => ?_⟩
          rw [y3 z hz, brs, decide_eq_false (by omega), Bool.or_false]
