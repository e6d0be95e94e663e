/-! the class reads -/
def CG (ch : Int → Int) (n base : Int) : Prop := (∀ q : Int, n ≤ q → ch q = 0) ∧ (∀ q : Int, 0 ≤ ch q ∧ ch q < 256) ∧ (0 ≤ n ∧ n ≤ 160) ∧ 0 ≤ base ∧ base ≤ 3040
def CT (ch : Int → Int) (n base : Int) (σ : AS) : Prop := σ 39 2 = n ∧ σ 39 6 = base ∧ n ≤ σ 2 1 ∧ ∀ q : Int, 0 ≤ q → q < n → σ 3 q = ch q
def cqX : List Nat := [35]
def cqF : List (Nat × Int) := [(39, 3), (39, 4), (39, 5), (39, 7)]
theorem CT_fr {ch : Int → Int} {n base : Int} {σ σ' : AS} (h : CT ch n base σ) (hf : Fr cqX cqF σ σ') : CT ch n base σ' := by
  unfold CT
  rw [hf.fld 39 2 (by decide), hf.fld 39 6 (by decide), hf.fld 2 1 (by decide), hf.cell 3 (by decide)]
  exact h
/-- a fault stands -/
def FP (base u B f p : Int) (σ σ' : AS) : Prop := Fr cqX cqF σ σ' ∧ (∀ j : Int, j < base + u → σ' 35 j = σ 35 j) ∧ (u ≤ σ' 39 7 ∧ σ' 39 7 ≤ 160) ∧ σ' 39 4 = f ∧ σ' 39 5 = p ∧ 0 ≤ σ' 39 3 ∧ σ' 39 3 ≤ B
def GP (base u q q' N : Int) (g : GF) (σ σ' : AS) : Prop := Fr cqX cqF σ σ' ∧ (∀ j : Int, j < base + u → σ' 35 j = σ 35 j) ∧ σ' 39 4 = 0 ∧ σ' 39 3 = q' ∧ (u < σ' 39 7 ∧ σ' 39 7 - u ≤ q' - q ∧ σ' 39 5 = σ 39 5) ∧ SX (σ' 35) (base + u) (base + σ' 39 7) N g
def CQ (base u q N B : Int) (σ : AS) : Rs → AS → Prop
  | .inl e, σ' => FP base u B e.1 e.2 σ σ'
  | .inr r, σ' => GP base u q r.1 N r.2 σ σ'
def vb : Nat → Int
  | 0 => 1000000
  | 1 => 100000
  | 2 => 10000
  | 3 => 1000
  | 4 => 100
  | 5 => 10
  | _ => 1
theorem vb_s {m : Nat} (h : m ≤ 5) : 10 * vb (m + 1) = vb m := by
  have : ∀ k : Fin 6, 10 * vb (k.val + 1) = vb k.val := by decide
  exact this ⟨m, by omega⟩
theorem vb_le {m : Nat} (h : m ≤ 6) : vb m ≤ 1000000 := by
  have : ∀ k : Fin 7, vb k.val ≤ 1000000 := by decide
  exact this ⟨m, by omega⟩
def NQ (n : Int) (σ : AS) : Sum (Int × Int) (Int × Int) → Int → AS → Prop
  | .inl e, _, s => Fr [] [(39, 3), (39, 4), (39, 5)] σ s ∧ s 39 4 = e.1 ∧ s 39 5 = e.2 ∧ 0 ≤ s 39 3 ∧ s 39 3 ≤ n + 1
  | .inr x, r, s => Fr [] [(39, 3), (39, 4), (39, 5)] σ s ∧ s 39 4 = 0 ∧ s 39 3 = x.1 ∧ r = x.2 ∧ 0 ≤ x.2 ∧ x.2 < 1000000 ∧ s 39 5 = σ 39 5
def nF (lim start : Int) : Sum (Int × Int) (Int × Int) → Sum (Int × Int) (Int × Int)
  | .inl e => .inl e
  | .inr r => if lim < r.2 then .inl (3, start) else .inr r
section RN
variable {Ln : Int} {d : Nat} {σ : AS} {ch : Int → Int} {n base : Int}
theorem sp_peekC (hG : CG ch n base) (hT : CT ch n base σ) (h0 : 0 ≤ σ 39 3) : am_M Ln (d + 2) 66 [vR 39] σ (am_rI fun r s => s = σ ∧ ((r = ch (σ 39 3) ∧ σ 39 3 < n) ∨ (r = -1 ∧ ch (σ 39 3) = 0 ∧ n ≤ σ 39 3))) := by
  obtain ⟨t1, t2, t3, t4⟩ := hT
  refine vm_X8_peek _ ?_
  rw [t1]
  refine ⟨fun h => ⟨rfl, Or.inr ⟨rfl, hG.1 _ h, h⟩⟩, fun h => cI (P := fun r s => r = ch (σ 39 3) ∧ s = σ) (vm_X10_byteAt _ _ ⟨fun z => absurd z (by omega), fun _ => ⟨fun z => absurd z (by omega), fun _ => ⟨?_, t4 _ h0 (by omega), rfl⟩⟩⟩) ?_⟩
  · have := hG.2.2.1
    omega
  · rintro r s ⟨h1, rfl⟩
    exact ⟨rfl, Or.inl ⟨h1, by omega⟩⟩
theorem pkC_eq (hG : CG ch n base) {r q c : Int} (h : (r = ch q ∧ q < n) ∨ (r = -1 ∧ ch q = 0 ∧ n ≤ q)) (hc : 0 < c) : r = c ↔ ch q = c := by
  have := hG.2.1 q
  rcases h with ⟨h1, h2⟩ | ⟨h1, h2, h3⟩ <;> omega
theorem pkC_D {r q : Int} (h : (r = ch q ∧ q < n) ∨ (r = -1 ∧ ch q = 0 ∧ n ≤ q)) : (48 ≤ r ∧ r ≤ 57) ↔ isD (ch q) = true := by
  unfold isD
  rw [decide_eq_true_iff]
  rcases h with ⟨h1, h2⟩ | ⟨h1, h2, h3⟩ <;> omega
theorem sp_isDigitC {a : Int} : am_M Ln (d + 1) 69 [vI a] σ (am_rI fun r s => s = σ ∧ (r ≠ 0 ↔ (48 ≤ a ∧ a ≤ 57))) :=
  vm_X8_isDigit _ _ ⟨fun h => ⟨am_b0, rfl, fun q => absurd rfl q, fun q => by omega⟩, fun h => ⟨fun h2 => ⟨am_b0, rfl, fun q => absurd rfl q, fun q => by omega⟩, fun h2 => ⟨am_b1, rfl, fun _ => by omega, fun _ => by decide⟩⟩⟩
theorem sp_fail0 {f p : Int} (h : σ 39 4 = 0) : am_M Ln (d + 1) 65 [vR 39, vI f, vI p] σ (am_rV fun s => s = am_up (am_up σ 39 4 f) 39 5 p) :=
  vm_X8_fail _ _ _ ⟨fun _ => rfl, fun q => absurd h q⟩
theorem sp_fail1 {f p : Int} (h : σ 39 4 ≠ 0) : am_M Ln (d + 1) 65 [vR 39, vI f, vI p] σ (am_rV fun s => s = σ) :=
  vm_X8_fail _ _ _ ⟨fun q => absurd q h, fun _ => rfl⟩
theorem up345 {σ s : AS} {f p : Int} (h : Fr [] [(39, 3), (39, 4), (39, 5)] σ s) : Fr [] [(39, 3), (39, 4), (39, 5)] σ (am_up (am_up s 39 4 f) 39 5 p) := Fr.up (Fr.up h (Or.inr (by decide))) (Or.inr (by decide))
theorem up45_4 {s : AS} {f p : Int} : (am_up (am_up s 39 4 f) 39 5 p) 39 4 = f := by rw [am_up_eq, if_neg (by decide), am_up_eq, if_pos rfl]
theorem up45_5 {s : AS} {f p : Int} : (am_up (am_up s 39 4 f) 39 5 p) 39 5 = p := by rw [am_up_eq, if_pos rfl]
theorem up45_3 {s : AS} {f p : Int} : (am_up (am_up s 39 4 f) 39 5 p) 39 3 = s 39 3 := by rw [am_up_eq, if_neg (by decide), am_up_eq, if_neg (by decide)]
theorem up45_7 {s : AS} {f p : Int} : (am_up (am_up s 39 4 f) 39 5 p) 39 7 = s 39 7 := by rw [am_up_eq, if_neg (by decide), am_up_eq, if_neg (by decide)]
/-- behind the last digit -/
theorem nq_end {lim start q v : Int} {s : AS} (hfr : Fr [] [(39, 3), (39, 4), (39, 5)] σ s) (h4 : s 39 4 = 0) (h3 : s 39 3 = q) (h5 : s 39 5 = σ 39 5) (h0 : 0 ≤ q) (hq : q ≤ n) (hv : 0 ≤ v ∧ v < 1000000) {R : Sum (Int × Int) (Int × Int)} (hR : R = nF lim start (.inr (q, v))) : (v ≤ lim → (am_rI (NQ n σ R)) (some (vI v)) s) ∧ (¬ (v ≤ lim) → ∃ T : Option AV → AS → Prop, am_M Ln (d + 1) 65 [vR 39, vI 3, vI start] s T ∧ ∀ s3, T none s3 → (am_rI (NQ n σ R)) (some (vI v)) s3) := by
  subst hR
  unfold nF
  refine ⟨fun h => ?_, fun h => cV (sp_fail0 h4) ?_⟩
  · dsimp only
    rw [if_neg (by omega)]
    exact ⟨hfr, h4, h3, rfl, hv.1, hv.2, h5⟩
  · rintro s3 rfl
    dsimp only
    rw [if_pos (by omega)]
    exact ⟨up345 hfr, up45_4, up45_5, by rw [up45_3, h3]; exact h0, by rw [up45_3, h3]; omega⟩
theorem lp_num (hG : CG ch n base) (hT : CT ch n base σ) {lim start : Int} (hs0 : 0 ≤ start) : ∀ (m : Nat) (q v : Int) (s : AS), m ≤ 6 → Fr [] [(39, 3), (39, 4), (39, 5)] σ s → s 39 4 = 0 → s 39 3 = q → s 39 5 = σ 39 5 → start < q ∨ (q = start ∧ isD (ch q) = true) → q ≤ n → q - start = 6 - m → 0 ≤ v → v < vb m →
    am_E Ln (d + 3) 62 7 [vR 39, vI lim, vI start, vI v] [] s (am_rI (NQ n σ (nF lim start (dLoop ch m q v)))) := by
  intro m
  induction m with
  | zero =>
    intro q v s hm hfr h4 h3 h5 hq hqn hqs hv0 hv1
    have hn := hG.2.2.1
    have hT' := CT_fr hT (hfr.mo (by decide) (by decide))
    have hne : ¬ s 39 3 = start := by omega
    refine vl_X8_readNumber_7 _ _ _ _ ⟨fun _ => ⟨fun he => ⟨fun z => absurd z hne, fun _ => ?_⟩, fun he => cI (sp_peekC (d := d + 1) hG hT' (by omega)) ?_⟩, fun z => absurd h4 z⟩
    · rw [hT'.1, h3] at he
      refine nq_end hfr h4 h3 h5 (by omega) hqn ⟨hv0, hv1⟩ ?_
      rw [dLoop, hG.1 q he, if_neg (by decide)]
    · rintro r5 s4 ⟨rfl, hp⟩
      rw [h3] at hp
      refine cI (sp_isDigitC (d := d + 2)) ?_
      rintro r7 s6 ⟨rfl, hd⟩
      rw [pkC_D hp] at hd
      refine ⟨fun z => ⟨fun z => absurd z hne, fun _ => ?_⟩, fun z => ?_⟩
      · refine nq_end hfr h4 h3 h5 (by omega) hqn ⟨hv0, hv1⟩ ?_
        rw [dLoop, if_neg (fun y => (hd.mpr y) z)]
      · have hd' := hd.mp z
        rw [h3, w32_id (x := q - start) (by omega) (by omega)]
        refine ⟨fun y => absurd y (by omega), fun _ => cV (sp_fail0 h4) ?_⟩
        rintro s13 rfl
        have f13 := up345 (f := 2) (p := q) hfr
        refine cI (sp_peekC (d := d + 1) hG (CT_fr hT (f13.mo (by decide) (by decide))) (by rw [up45_3]; omega)) ?_
        rintro r15 s14 ⟨rfl, -⟩
        -- one more turn, with the fault
        have e4 : ∀ x : Int, (am_up (am_up (am_up s6 39 4 2) 39 5 q) 39 3 x) 39 4 = 2 := fun x => by rw [am_up_eq, if_neg (by decide), up45_4]
        have e5 : ∀ x : Int, (am_up (am_up (am_up s6 39 4 2) 39 5 q) 39 3 x) 39 5 = q := fun x => by rw [am_up_eq, if_neg (by decide), up45_5]
        have e3 : ∀ x : Int, (am_up (am_up (am_up s6 39 4 2) 39 5 q) 39 3 x) 39 3 = x := fun x => by rw [am_up_eq, if_pos rfl]
        rw [up45_3, h3, w32_id (x := q + 1) (by omega) (by omega)]
        have fin : ∀ y : Int, (am_rI (NQ n σ (nF lim start (dLoop ch 0 q v)))) (some (vI y)) (am_up (am_up (am_up s6 39 4 2) 39 5 q) 39 3 (q + 1)) := by
          intro y
          rw [dLoop, if_pos hd']
          exact ⟨Fr.up f13 (Or.inr (by decide)), e4 _, e5 _, by rw [e3]; omega, by rw [e3]; omega⟩
        refine vl_X8_readNumber_7 _ _ _ _ ⟨fun z => ?_, fun _ => ⟨fun z => ?_, fun _ => ⟨fun _ => fin _, fun _ => cV (sp_fail1 (by rw [e4]; decide)) ?_⟩⟩⟩
        · rw [e4] at z; exact absurd z (by decide)
        · rw [e3] at z; omega
        · rintro s18 rfl
          exact fin _
  | succ m ih =>
    intro q v s hm hfr h4 h3 h5 hq hqn hqs hv0 hv1
    have hn := hG.2.2.1
    have hT' := CT_fr hT (hfr.mo (by decide) (by decide))
    have hvl := vb_le hm
    have hvs := vb_s (m := m) (by omega)
    refine vl_X8_readNumber_7 _ _ _ _ ⟨fun _ => ⟨fun he => ?_, fun he => cI (sp_peekC (d := d + 1) hG hT' (by omega)) ?_⟩, fun z => absurd h4 z⟩
    · rw [hT'.1, h3] at he
      have hz := hG.1 q he
      have hne : ¬ s 39 3 = start := by
        rcases hq with y | ⟨y, y2⟩
        · omega
        · rw [hz] at y2; exact absurd y2 (by decide)
      refine ⟨fun z => absurd z hne, fun _ => ?_⟩
      refine nq_end hfr h4 h3 h5 (by omega) hqn ⟨hv0, by omega⟩ ?_
      rw [dLoop, hz, if_neg (by decide)]
    · rintro r5 s4 ⟨rfl, hp⟩
      rw [h3] at hp
      refine cI (sp_isDigitC (d := d + 2)) ?_
      rintro r7 s6 ⟨rfl, hd⟩
      rw [pkC_D hp] at hd
      refine ⟨fun z => ?_, fun z => ?_⟩
      · have hnd : ¬ isD (ch q) = true := fun y => (hd.mpr y) z
        have hne : ¬ s6 39 3 = start := by
          rcases hq with y | ⟨y, y2⟩
          · omega
          · exact absurd y2 hnd
        refine ⟨fun z => absurd z hne, fun _ => ?_⟩
        refine nq_end hfr h4 h3 h5 (by omega) hqn ⟨hv0, by omega⟩ ?_
        rw [dLoop, if_neg hnd]
      · have hd' := hd.mp z
        have hr : 48 ≤ ch q ∧ ch q ≤ 57 := of_decide_eq_true hd'
        have hqlt : q < n := by
          by_cases y : n ≤ q
          · have := hG.1 q y; omega
          · omega
        rw [h3, w32_id (x := q - start) (by omega) (by omega)]
        refine ⟨fun _ => cI (sp_peekC (d := d + 1) hG hT' (by omega)) ?_, fun y => absurd (by omega) y⟩
        rintro r12 s11 ⟨rfl, hp2⟩
        rw [h3] at hp2
        have er : r12 = ch q := by rcases hp2 with ⟨y, -⟩ | ⟨-, y, -⟩ <;> omega
        rw [er, h3, w32_id (x := q + 1) (by omega) (by omega), w32_id (x := 10 * v) (by omega) (by omega), w32_id (x := 10 * v + ch q) (by omega) (by omega), w32_id (x := 10 * v + ch q - 48) (by omega) (by omega)]
        rw [dLoop, if_pos hd']
        refine ih (q + 1) (10 * v + ch q - 48) _ (by omega) (Fr.up hfr (Or.inr (by decide))) ?_ ?_ ?_ (Or.inl (by omega)) (by omega) (by omega) (by omega) (by omega)
        · rw [am_up_eq, if_neg (by decide)]; exact h4
        · rw [am_up_eq, if_pos rfl]
        · rw [am_up_eq, if_neg (by decide)]; exact h5
/-- the class reads a number -/
theorem sp_readNumber (hG : CG ch n base) (hT : CT ch n base σ) {lim : Int} (hl : 0 ≤ lim) (h4 : σ 39 4 = 0) (h0 : 0 ≤ σ 39 3) (h1 : σ 39 3 ≤ n) : am_M Ln (d + 4) 62 [vR 39, vI lim] σ (am_rI (NQ n σ (pNum ch lim (σ 39 3)))) := by
  refine vm_X8_readNumber _ _ ?_
  obtain ⟨q, hq⟩ : ∃ q, q = σ 39 3 := ⟨_, rfl⟩
  rw [← hq]
  by_cases e : isD (ch q) = true
  · have key := lp_num (Ln := Ln) (d := d) hG hT (lim := lim) (start := q) (by omega) 6 q 0 σ (Nat.le_refl 6) Fr.rf h4 hq.symm rfl (Or.inr ⟨rfl, e⟩) (by omega) (by omega) (by omega) (by decide)
    unfold pNum
    rw [if_pos e]
    exact key
  · have fin : ∃ T : Option AV → AS → Prop, am_M Ln (d + 3) 65 [vR 39, vI 1, vI (σ 39 3)] σ T ∧ ∀ s1, T none s1 → (0 ≤ lim → (am_rI (NQ n σ (pNum ch lim q))) (some (vI 0)) s1) ∧ (¬ (0 ≤ lim) → ∃ T : Option AV → AS → Prop, am_M Ln (d + 3) 65 [vR 39, vI 3, vI q] s1 T ∧ ∀ s2, T none s2 → (am_rI (NQ n σ (pNum ch lim q))) (some (vI 0)) s2) := by
      refine cV (sp_fail0 h4) ?_
      rintro s1 rfl
      refine ⟨fun _ => ?_, fun z => absurd hl z⟩
      unfold pNum
      rw [if_neg e]
      exact ⟨up345 Fr.rf, up45_4, by rw [up45_5]; exact hq.symm, by rw [up45_3]; exact h0, by rw [up45_3]; omega⟩
    refine vl_X8_readNumber_7 _ _ _ _ ⟨fun _ => ⟨fun he => ⟨fun z => fin, fun z => absurd hq.symm z⟩, fun he => cI (sp_peekC (d := d + 1) hG hT h0) ?_⟩, fun z => absurd h4 z⟩
    rintro r5 s4 ⟨rfl, hp⟩
    rw [← hq] at hp
    refine cI (sp_isDigitC (d := d + 2)) ?_
    rintro r7 s6 ⟨rfl, hd⟩
    rw [pkC_D hp] at hd
    exact ⟨fun z => ⟨fun _ => fin, fun y => absurd hq.symm y⟩, fun z => absurd (hd.mp z) e⟩
/-- a number that is asked for in vain -/
theorem sp_readNumberF {lim : Int} (h4 : σ 39 4 ≠ 0) : am_M Ln (d + 4) 62 [vR 39, vI lim] σ (am_rI fun _ s => s = σ) := by
  have fin : ∃ T : Option AV → AS → Prop, am_M Ln (d + 3) 65 [vR 39, vI 1, vI (σ 39 3)] σ T ∧ ∀ s1, T none s1 → (0 ≤ lim → (am_rI fun _ s => s = σ) (some (vI 0)) s1) ∧ (¬ (0 ≤ lim) → ∃ T : Option AV → AS → Prop, am_M Ln (d + 3) 65 [vR 39, vI 3, vI (σ 39 3)] s1 T ∧ ∀ s2, T none s2 → (am_rI fun _ s => s = σ) (some (vI 0)) s2) := by
    refine cV (sp_fail1 h4) ?_
    rintro s1 rfl
    exact ⟨fun _ => rfl, fun _ => cV (sp_fail1 h4) (fun s2 h => h)⟩
  exact vm_X8_readNumber _ _ (vl_X8_readNumber_7 _ _ _ _ ⟨fun z => absurd z h4, fun _ => ⟨fun _ => fin, fun z => absurd rfl z⟩⟩)
end RN
