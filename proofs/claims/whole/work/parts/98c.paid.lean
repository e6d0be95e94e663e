/-! what of a debt is paid -/
def dw (A R S : Int → Int) (D : Nat) (a r : Int) : Int → Int := fun j => if j < D ∧ A j = a ∧ R j = r then S j else 0
def stF (A R S : Int → Int) (D : Nat) (a i : Int) : Nat → Int → Int → Int
  | 0, _, _ => S i
  | q + 1, r, rest => if sm (dw A R S D a r) D ≤ rest then stF A R S D a i q (r + 1) (rest - sm (dw A R S D a r) D) else if r = R i then pq rest (dw A R S D a r) D i else 0
section PD
variable {Ln : Int} {d : Nat} {A R S : Int → Int} {D : Nat}
theorem dw_bd {a r : Int} (hS : ∀ j : Int, 0 ≤ j → j < D → 1 ≤ S j ∧ S j ≤ 1000000) : ∀ j : Int, 0 ≤ j → 0 ≤ dw A R S D a r j ∧ dw A R S D a r j ≤ 1000000 := by
  intro j h0
  unfold dw
  split
  · rename_i h
    have := hS j h0 h.1
    omega
  · omega
theorem dw_sm {a r : Int} (hS : ∀ j : Int, 0 ≤ j → j < D → 1 ≤ S j ∧ S j ≤ 1000000) : ∀ n : Nat, 0 ≤ sm (dw A R S D a r) n ∧ sm (dw A R S D a r) n ≤ 1000000 * n := by
  intro n
  induction n with
  | zero => rw [sm]; omega
  | succ n ih =>
    have := dw_bd (A := A) (R := R) (a := a) (r := r) hS n (by omega)
    rw [sm]
    omega
theorem dw_pos {a r j : Int} (hS : ∀ j : Int, 0 ≤ j → j < D → 1 ≤ S j ∧ S j ≤ 1000000) (h0 : 0 ≤ j) (h1 : j < D) : 0 < dw A R S D a r j ↔ A j = a ∧ R j = r := by
  unfold dw
  have := hS j h0 h1
  by_cases h : A j = a ∧ R j = r
  · rw [if_pos ⟨h1, h⟩]; exact ⟨fun _ => h, fun _ => by omega⟩
  · rw [if_neg (fun q => h q.2)]; exact ⟨fun q => absurd q (by omega), fun q => absurd q h⟩
theorem dw_far {a r j : Int} (h : D ≤ j) : dw A R S D a r j = 0 := by
  unfold dw
  rw [if_neg (by omega)]
/-- the class gathers -/
theorem lp_gather {a r : Int} {C : AS} (hD : C 76 3 = D) (hD4 : D ≤ 40) (hS : ∀ j : Int, 0 ≤ j → j < D → 1 ≤ C 78 j ∧ C 78 j ≤ 1000000) : ∀ (q j : Nat) (f : Int → Int), j + q = D → (∀ x : Int, 0 ≤ x → x < 40 → f x = if x < j then dw (C 77) (C 79) (C 78) D a r x else 0) →
    am_E Ln d 14 13 [vR 76, vI a, vI r, vI (sm (dw (C 77) (C 79) (C 78) D a r) j), vI (j : Int)] [] (zc C 80 f) (am_rI fun v s => v = sm (dw (C 77) (C 79) (C 78) D a r) D ∧ Fr [80] [] C s ∧ ∀ x : Int, 0 ≤ x → x < 40 → s 80 x = dw (C 77) (C 79) (C 78) D a r x) := by
  intro q
  induction q with
  | zero =>
    intro j f hj hf
    obtain rfl : j = D := by omega
    refine vl_X1_gather_13 _ _ _ _ _ ⟨fun _ => ⟨rfl, Fr.cl Fr.rf (by decide), fun x x0 x1 => ?_⟩, fun h => absurd ?_ h⟩
    · rw [zc_eq, hf x x0 x1]
      by_cases e : x < j
      · rw [if_pos e]
      · rw [if_neg e, dw_far (by omega)]
    · rw [zc_ne (by decide), hD]; omega
  | succ q ih =>
    intro j f hj hf
    have z76 : zc C 80 f 76 = C 76 := zc_ne (by decide)
    have z77 : zc C 80 f 77 = C 77 := zc_ne (by decide)
    have z78 : zc C 80 f 78 = C 78 := zc_ne (by decide)
    have z79 : zc C 80 f 79 = C 79 := zc_ne (by decide)
    have hs := dw_sm (A := C 77) (R := C 79) (a := a) (r := r) hS j
    have hj1 := hS j (by omega) (by omega)
    have rj : 0 ≤ (j : Int) ∧ (j : Int) < 40 := by omega
    have fz : ∀ g : Int → Int, zc (zc C 80 f) 80 g = zc C 80 g := by
      intro g
      funext c
      by_cases e : c = 80
      · rw [e, zc_eq, zc_eq]
      · rw [zc_ne e, zc_ne e, zc_ne e]
    refine vl_X1_gather_13 _ _ _ _ _ ?_
    rw [z76, z77, z78, z79, hD, w32_id (x := sm (dw (C 77) (C 79) (C 78) D a r) j + C 78 j) (by omega) (by omega), w32_id (x := (j : Int) + 1) (by omega) (by omega), up_zc, zc_eq, fz]
    have no : ¬ (C 77 j = a ∧ C 79 j = r) → am_E Ln d 14 13 [vR 76, vI a, vI r, vI (sm (dw (C 77) (C 79) (C 78) D a r) j), vI ((j : Int) + 1)] [] (zc C 80 f) (am_rI fun v s => v = sm (dw (C 77) (C 79) (C 78) D a r) D ∧ Fr [80] [] C s ∧ ∀ x : Int, 0 ≤ x → x < 40 → s 80 x = dw (C 77) (C 79) (C 78) D a r x) := by
      intro e
      have e0 : dw (C 77) (C 79) (C 78) D a r j = 0 := by unfold dw; rw [if_neg (fun z => e z.2)]
      have := ih (j + 1) f (by omega) (fun x x0 x1 => by
        rw [hf x x0 x1]
        by_cases ex : x = j
        · rw [ex, if_neg (by omega), if_pos (by omega), e0]
        · by_cases e2 : x < j
          · rw [if_pos e2, if_pos (by omega)]
          · rw [if_neg e2, if_neg (by omega)])
      rw [sm, e0, Int.add_zero] at this
      exact this
    refine ⟨fun h => absurd h (by omega), fun _ => ⟨rj, ⟨fun e1 => ⟨rj, ⟨fun e2 => ⟨rj, rj, rj, ?_⟩, fun e2 => no (fun z => e2 z.2)⟩⟩, fun e1 => no (fun z => e1 z.1)⟩⟩⟩
    have e0 : dw (C 77) (C 79) (C 78) D a r j = C 78 j := by unfold dw; rw [if_pos ⟨by omega, e1, e2⟩]
    have := ih (j + 1) (fu f j (C 78 j)) (by omega) (fun x x0 x1 => by
      rw [fu_app, hf x x0 x1]
      by_cases ex : x = j
      · rw [ex, if_pos rfl, if_pos (by omega), e0]
      · rw [if_neg ex]
        by_cases e2 : x < j
        · rw [if_pos e2, if_pos (by omega)]
        · rw [if_neg e2, if_neg (by omega)])
    rw [sm, e0] at this
    exact this
theorem sp_gather {a r : Int} {C : AS} (hD : C 76 3 = D) (hD4 : D ≤ 40) (hS : ∀ j : Int, 0 ≤ j → j < D → 1 ≤ C 78 j ∧ C 78 j ≤ 1000000) : am_M Ln (d + 2) 14 [vR 76, vI a, vI r] C (am_rI fun v s => v = sm (dw (C 77) (C 79) (C 78) D a r) D ∧ Fr [80] [] C s ∧ ∀ x : Int, 0 ≤ x → x < 40 → s 80 x = dw (C 77) (C 79) (C 78) D a r x) := by
  refine vm_X1_gather _ _ _ (cV (sp_fill_80 C 0) ?_)
  rintro s ⟨f, rfl, hf⟩
  exact lp_gather hD hD4 hS D 0 f (by omega) (fun x x0 x1 => by rw [hf x x0 x1, if_neg (by omega)])
theorem lp_settle {i a : Int} {C : AS} (hD : C 76 3 = D) (hD4 : D ≤ 40) (hS : ∀ j : Int, 0 ≤ j → j < D → 1 ≤ C 78 j ∧ C 78 j ≤ 1000000) (hi : 0 ≤ i ∧ i < D) (ha : C 77 i = a) (hR : 0 ≤ C 79 i ∧ C 79 i < 4) : ∀ (q : Nat) (r rest : Int) (s : AS), r + q = C 79 i + 1 → 0 ≤ r → 0 ≤ rest ∧ rest ≤ 1000000000 → Fr [80, 81] [] C s →
    am_E Ln (d + 2) 13 5 [vR 76, vI i, vU, vI rest, vI r, vU] [] s (am_rI fun v s' => v = stF (C 77) (C 79) (C 78) D a i q r rest ∧ Fr [80, 81] [] C s') := by
  intro q
  induction q with
  | zero =>
    intro r rest s hr h0 hrs hs
    have ri : 0 ≤ i ∧ i < 40 := by omega
    refine vl_X1_settle_5 _ _ _ _ ?_
    rw [hs.cell 79 (by decide), hs.cell 78 (by decide), hs.cell 77 (by decide)]
    exact ⟨ri, fun _ => ⟨ri, rfl, hs⟩, fun h => absurd (by omega) h⟩
  | succ q ih =>
    intro r rest s hr h0 hrs hs
    have ri : 0 ≤ i ∧ i < 40 := by omega
    have e77 : s 77 = C 77 := hs.cell 77 (by decide)
    have e78 : s 78 = C 78 := hs.cell 78 (by decide)
    have e79 : s 79 = C 79 := hs.cell 79 (by decide)
    have hsm := dw_sm (A := C 77) (R := C 79) (a := a) (r := r) hS D
    refine vl_X1_settle_5 _ _ _ _ ?_
    rw [e79, e77, e78, ha, w32_id (x := r + 1) (by omega) (by omega)]
    refine ⟨ri, fun h => absurd h (by omega), fun _ => ⟨ri, cI (sp_gather (D := D) (by rw [hs.fld 76 3 (by decide)]; exact hD) hD4 (by rw [e78]; exact hS)) ?_⟩⟩
    rw [e77, e78, e79]
    rintro v s1 ⟨y1, y2, y3⟩
    have hs1 : Fr [80, 81] [] C s1 := hs.tr (y2.mo (by decide) (by decide))
    rw [y1]
    refine ⟨fun z => ?_, fun z => ?_⟩
    · rw [w32_id (x := rest - sm (dw (C 77) (C 79) (C 78) D a r) D) (by omega) (by omega), stF, if_pos z]
      exact ih (r + 1) _ s1 (by omega) (by omega) (by omega) hs1
    · refine cV (sp_portion_c s1 rest hrs.1 hrs.2 (fun j a1 b1 => ?_) (fun j a1 b1 => ?_)) ?_
      · rw [y3 j a1 b1]; exact (dw_bd hS j a1).1
      · rw [y3 j a1 b1]; have := (dw_bd (A := C 77) (R := C 79) (a := a) (r := r) hS j a1).2; omega
      · rintro s3 ⟨f, rfl, hf⟩
        have hs3 : Fr [80, 81] [] C (zc s1 81 f) := hs1.cl (by decide)
        have esm : sm (s1 80) 40 = sm (dw (C 77) (C 79) (C 78) D a r) D := by
          rw [sm_congr (g := dw (C 77) (C 79) (C 78) D a r) (fun j a1 b1 => y3 j a1 b1)]
          exact sm_short hD4 (fun j a1 b1 => dw_far a1)
        rw [zc_ne (by decide), hs1.cell 79 (by decide), zc_eq, stF, if_neg z]
        refine ⟨ri, fun e => ⟨ri, ?_, hs3⟩, fun e => ⟨?_, hs3⟩⟩
        · rw [if_pos e, hf i hi.1 (by omega), esm, if_neg (by omega), pq_congr (w' := dw (C 77) (C 79) (C 78) D a r) (fun j a1 b1 => y3 j a1 b1) hi.1 (by show i < (40 : Int); omega)]
          exact pq_short hD4 (fun j a1 b1 => dw_far a1) i
        · rw [if_neg e]
/-- the model pays one rank -/
theorem sp_isOf {k a r : Int} {s : AS} (hk : 0 ≤ k ∧ k < 40) : am_M Ln (d + 1) 238 [vR 82, vI k, vI a, vI r] s (am_rI fun v s' => v = (if s 134 k = a ∧ s 137 k = r then 1 else 0) ∧ s' = s) :=
  vm_X12_isOf _ _ _ _ ⟨hk, fun e1 => ⟨hk, fun e2 => ⟨am_b1, by rw [if_pos ⟨e1, e2⟩], rfl⟩, fun e2 => ⟨am_b0, by rw [if_neg (fun z => e2 z.2)], rfl⟩⟩, fun e1 => ⟨am_b0, by rw [if_neg (fun z => e1 z.1)], rfl⟩⟩
theorem ifc {p q : Prop} [Decidable p] [Decidable q] {α : Type} {x y : α} (h : p ↔ q) : (if p then x else y) = if q then x else y := by
  by_cases e : p
  · rw [if_pos e, if_pos (h.mp e)]
  · rw [if_neg e, if_neg (fun z => e (h.mpr z))]
def mpd (s : AS) (D : Nat) (a r : Int) : Int → Int := dw (s 134) (s 137) (s 136) D a r
/-- what a debt of the rank is paid -/
def mpp (s : AS) (D : Nat) (a r has : Int) (x : Int) : Int := if sm (mpd s D a r) D ≤ has then s 136 x else pq has (mpd s D a r) D x
theorem lp_pays146 {a r : Int} {s : AS} {L : Int} {g : Int → Int} (hD : s 82 9 = D) (hD4 : D ≤ 40) (hS : ∀ j : Int, 0 ≤ j → j < D → 1 ≤ s 136 j ∧ s 136 j ≤ 1000000) (hL : 0 ≤ L ∧ L ≤ 1000000000) (hg : ∀ j : Int, 0 ≤ j → j < D → 0 ≤ g j ∧ g j ≤ 1000000000) : ∀ (q j : Nat) (f : Int → Int), j + q = D → cp (mpd s D a r) j ≤ L → (∀ x : Int, 0 ≤ x → x < D → f x = if s 134 x = a ∧ s 137 x = r then (if x < j ∧ cp (mpd s D a r) x.toNat < L then g x + 1 else g x) else s 138 x) →
    am_E Ln (d + 1) 239 146 [vR 82, vI a, vI r, vU, vU, vI (L - cp (mpd s D a r) j), vI (j : Int)] [] (zc s 138 f) (am_rI fun v s' => v = -1 ∧ ∃ f, s' = zc s 138 f ∧ ∀ x : Int, 0 ≤ x → x < D → f x = if s 134 x = a ∧ s 137 x = r then (if cp (mpd s D a r) x.toNat < L then g x + 1 else g x) else s 138 x) := by
  intro q
  induction q with
  | zero =>
    intro j f hj hc hf
    obtain rfl : j = D := by omega
    refine vl_X12_pays_146 _ _ _ _ _ ⟨fun _ => ⟨rfl, f, rfl, fun x x0 x1 => ?_⟩, fun h => absurd ?_ h⟩
    · rw [hf x x0 x1]
      by_cases e : cp (mpd s j a r) x.toNat < L
      · rw [if_pos (c := x < j ∧ _) ⟨x1, e⟩, if_pos e]
      · rw [if_neg (c := x < j ∧ _) (fun z => e z.2), if_neg e]
    · rw [zc_ne (by decide), hD]; omega
  | succ q ih =>
    intro j f hj hc hf
    have z82 : zc s 138 f 82 = s 82 := zc_ne (by decide)
    have z134 : zc s 138 f 134 = s 134 := zc_ne (by decide)
    have z137 : zc s 138 f 137 = s 137 := zc_ne (by decide)
    have rj : 0 ≤ (j : Int) ∧ (j : Int) < 40 := by omega
    have hcb := cp_bd (w := mpd s D a r) j
    have hgj := hg j (by omega) (by omega)
    have hpos : 0 < mpd s D a r j ↔ s 134 j = a ∧ s 137 j = r := dw_pos (A := s 134) (R := s 137) (a := a) (r := r) hS (show (0 : Int) ≤ j by omega) (show (j : Int) < D by omega)
    have fz : ∀ g : Int → Int, zc (zc s 138 f) 138 g = zc s 138 g := by
      intro g
      funext c
      by_cases e : c = 138
      · rw [e, zc_eq, zc_eq]
      · rw [zc_ne e, zc_ne e, zc_ne e]
    refine vl_X12_pays_146 _ _ _ _ _ ?_
    rw [z82, hD]
    refine ⟨fun h => absurd h (by omega), fun _ => ⟨fun h => ⟨rfl, f, rfl, fun x x0 x1 => ?_⟩, fun h => cI (sp_isOf rj) ?_⟩⟩
    · rw [hf x x0 x1]
      by_cases e : x < j ∧ cp (mpd s D a r) x.toNat < L
      · rw [if_pos e, if_pos e.2]
      · rw [if_neg e, if_neg (fun z => e ⟨?_, z⟩)]
        by_cases e2 : x < j
        · exact e2
        · have := cp_mono (w := mpd s D a r) (k := j) (n := x.toNat) (by omega)
          omega
    · rintro v s' ⟨y1, rfl⟩
      rw [z134, z137] at y1
      rw [w32_id (x := (j : Int) + 1) (by omega) (by omega), w32_id (x := L - cp (mpd s D a r) j + -1) (by omega) (by omega), zc_eq, up_zc, zc_eq, fz]
      refine ⟨fun e => ?_, fun e => ⟨rj, rj, ?_⟩⟩
      · have e0 : ¬ (s 134 j = a ∧ s 137 j = r) := fun z => by rw [if_pos z] at y1; omega
        have key := ih (j + 1) f (by omega) (by rw [cp, if_neg (fun z => e0 (hpos.mp z))]; omega) (fun x x0 x1 => by
          rw [hf x x0 x1]
          by_cases ex : x = j
          · rw [ex, if_neg e0, if_neg e0]
          · have : (x < j ∧ cp (mpd s D a r) x.toNat < L) ↔ (x < ((j + 1 : Nat) : Int) ∧ cp (mpd s D a r) x.toNat < L) := by omega
            rw [ifc this])
        rw [cp, if_neg (fun z => e0 (hpos.mp z)), Int.add_zero] at key
        exact key
      · have e0 : s 134 j = a ∧ s 137 j = r := by
          by_cases z : s 134 j = a ∧ s 137 j = r
          · exact z
          · rw [if_neg z] at y1; exact absurd y1 e
        have hfj : f j = g j := by rw [hf j (by omega) (by omega), if_pos e0, if_neg (by omega)]
        have key := ih (j + 1) (fu f j (g j + 1)) (by omega) (by rw [cp, if_pos (hpos.mpr e0)]; omega) (fun x x0 x1 => by
          rw [fu_app]
          by_cases ex : x = j
          · rw [ex, if_pos rfl, if_pos e0, if_pos ⟨by omega, by rw [show ((j : Int)).toNat = j by omega]; omega⟩]
          · rw [if_neg ex, hf x x0 x1]
            have : (x < j ∧ cp (mpd s D a r) x.toNat < L) ↔ (x < ((j + 1 : Nat) : Int) ∧ cp (mpd s D a r) x.toNat < L) := by omega
            rw [ifc this])
        rw [cp, if_pos (hpos.mpr e0), show L - (cp (mpd s D a r) j + 1) = L - cp (mpd s D a r) j + -1 by omega] at key
        rw [hfj, w32_id (x := g j + 1) (by omega) (by omega)]
        exact key
theorem lp_pays54 {a r has : Int} {s : AS} (hD : s 82 9 = D) (hD4 : D ≤ 40) (hS : ∀ j : Int, 0 ≤ j → j < D → 1 ≤ s 136 j ∧ s 136 j ≤ 1000000) (hh : 0 ≤ has ∧ has ≤ 1000000000) : ∀ (q j : Nat) (f : Int → Int), j + q = D → (∀ x : Int, 0 ≤ x → x < D → f x = if (s 134 x = a ∧ s 137 x = r) ∧ x < j then (if sm (mpd s D a r) D ≤ has then s 136 x else has * mpd s D a r x / sm (mpd s D a r) D) else s 138 x) →
    am_E Ln (d + 1) 239 54 [vR 82, vI a, vI r, vI has, vI (sm (mpd s D a r) D), vI (has - sm (fun x => if sm (mpd s D a r) D ≤ has then mpd s D a r x else has * mpd s D a r x / sm (mpd s D a r) D) j), vI (j : Int)] [] (zc s 138 f) (am_rI fun v s' => v = (if sm (mpd s D a r) D ≤ has then has - sm (mpd s D a r) D else -1) ∧ ∃ f, s' = zc s 138 f ∧ ∀ x : Int, 0 ≤ x → x < D → f x = if s 134 x = a ∧ s 137 x = r then mpp s D a r has x else s 138 x) := by
  have hb := dw_bd (A := s 134) (R := s 137) (a := a) (r := r) hS
  have hsm := dw_sm (A := s 134) (R := s 137) (a := a) (r := r) hS
  obtain ⟨w, hw⟩ : ∃ w, w = mpd s D a r := ⟨_, rfl⟩
  have hb' : ∀ j : Int, 0 ≤ j → 0 ≤ w j ∧ w j ≤ 1000000 := fun j a => by rw [hw]; exact hb j a
  have hsm' : ∀ n : Nat, 0 ≤ sm w n ∧ sm w n ≤ 1000000 * n := fun n => by rw [hw]; exact hsm n
  have hsD := hsm' D
  intro q
  induction q with
  | zero =>
    intro j f hj hf
    obtain rfl : j = D := by omega
    refine vl_X12_pays_54 _ _ _ _ _ _ _ ⟨fun _ => ⟨fun z => ?_, fun z => ?_⟩, fun h => absurd ?_ h⟩
    · have hpp : 0 < sm w j := by rw [hw]; omega
      have hq := pq_sum (s := has) (w := w) (n := j) hh.1 hpp (fun i a _ => (hb' i a).1) (Nat.le_refl j)
      have key := lp_pays146 (Ln := Ln) (d := d) (a := a) (r := r) (s := s) (L := has - sm (fun x => has * w x / sm w j) j) (g := fun x => has * w x / sm w j) hD hD4 hS (by omega) (fun x x0 x1 => by
        have := pq_each (s := has) (w := w) (n := j) hh.1 hpp (fun i a _ => (hb' i a).1) x0 x1
        exact ⟨this.1, by show has * w x / sm w j ≤ 1000000000; omega⟩) j 0 f (by omega) (by rw [cp]; omega) (fun x x0 x1 => by
        rw [hf x x0 x1]
        by_cases e : s 134 x = a ∧ s 137 x = r
        · rw [if_pos ⟨e, x1⟩, if_pos e, if_neg (by omega), if_neg (by omega), hw]
        · rw [if_neg (fun q => e q.1), if_neg e])
      rw [cp, Int.sub_zero] at key
      have esum : sm (fun x => if sm (mpd s j a r) j ≤ has then mpd s j a r x else has * mpd s j a r x / sm (mpd s j a r) j) j = sm (fun x => has * w x / sm w j) j := sm_congr (fun x _ _ => by rw [if_neg (by omega), hw])
      rw [esum]
      refine am_EI key ?_
      rintro v s' ⟨y1, f', y2, y3⟩
      refine ⟨by rw [if_neg (by omega)]; exact y1, f', y2, fun x x0 x1 => ?_⟩
      rw [y3 x x0 x1]
      by_cases e : s 134 x = a ∧ s 137 x = r
      · have hpos := (dw_pos (A := s 134) (R := s 137) (a := a) (r := r) hS x0 x1).mpr e
        rw [if_pos e, if_pos e, mpp, if_neg (c := sm (mpd s j a r) j ≤ has) (by omega), pq, ← hw]
        have hpos' : 0 < w x := by rw [hw]; exact hpos
        by_cases e2 : cp w x.toNat < has - sm (fun x => has * w x / sm w j) j
        · rw [if_pos e2, if_pos ⟨hpos', e2⟩]
        · rw [if_neg e2, if_neg (fun q => e2 q.2)]; show _ = _ + 0; omega
      · rw [if_neg e, if_neg e]
    · have esum : sm (fun x => if sm (mpd s j a r) j ≤ has then mpd s j a r x else has * mpd s j a r x / sm (mpd s j a r) j) j = sm (mpd s j a r) j := sm_congr (fun x _ _ => by rw [if_pos (by omega)])
      rw [esum]
      refine ⟨by rw [if_pos (by omega)], f, rfl, fun x x0 x1 => ?_⟩
      rw [hf x x0 x1, mpp, if_pos (c := sm _ _ ≤ has) (by omega), if_pos (c := sm _ _ ≤ has) (by omega)]
      by_cases e : s 134 x = a ∧ s 137 x = r
      · rw [if_pos e, if_pos ⟨e, x1⟩]
      · rw [if_neg e, if_neg (fun q => e q.1)]
    · rw [zc_ne (by decide), hD]; omega
  | succ q ih =>
    intro j f hj hf
    have z82 : zc s 138 f 82 = s 82 := zc_ne (by decide)
    have z134 : zc s 138 f 134 = s 134 := zc_ne (by decide)
    have z136 : zc s 138 f 136 = s 136 := zc_ne (by decide)
    have z137 : zc s 138 f 137 = s 137 := zc_ne (by decide)
    have rj : 0 ≤ (j : Int) ∧ (j : Int) < 40 := by omega
    have hSj := hS j (by omega) (by omega)
    have fz : ∀ g : Int → Int, zc (zc s 138 f) 138 g = zc s 138 g := by
      intro g
      funext c
      by_cases e : c = 138
      · rw [e, zc_eq, zc_eq]
      · rw [zc_ne e, zc_ne e, zc_ne e]
    obtain ⟨u, hu⟩ : ∃ u : Int → Int, u = fun x => if sm (mpd s D a r) D ≤ has then mpd s D a r x else has * mpd s D a r x / sm (mpd s D a r) D := ⟨_, rfl⟩
    have hub : 0 ≤ sm u j ∧ sm u j ≤ 1000000000 := by
      by_cases z : sm (mpd s D a r) D ≤ has
      · have : sm u j = sm w j := sm_congr (fun x _ _ => by rw [hu, hw]; dsimp only; rw [if_pos z])
        have := hsm' j
        omega
      · have e : sm u j = sm (fun x => has * w x / sm w D) j := sm_congr (fun x _ _ => by rw [hu, hw]; dsimp only; rw [if_neg z])
        have hq := pq_sum (s := has) (w := w) (n := D) hh.1 (by rw [hw]; omega) (fun i a _ => (hb' i a).1) (show j ≤ D by omega)
        omega
    have nxt : ∀ f' : Int → Int, (∀ x : Int, 0 ≤ x → x < D → f' x = if (s 134 x = a ∧ s 137 x = r) ∧ x < ((j + 1 : Nat) : Int) then (if sm (mpd s D a r) D ≤ has then s 136 x else has * mpd s D a r x / sm (mpd s D a r) D) else s 138 x) → am_E Ln (d + 1) 239 54 [vR 82, vI a, vI r, vI has, vI (sm (mpd s D a r) D), vI (has - (sm u j + u j)), vI ((j : Int) + 1)] [] (zc s 138 f') (am_rI fun v s' => v = (if sm (mpd s D a r) D ≤ has then has - sm (mpd s D a r) D else -1) ∧ ∃ f, s' = zc s 138 f ∧ ∀ x : Int, 0 ≤ x → x < D → f x = if s 134 x = a ∧ s 137 x = r then mpp s D a r has x else s 138 x) := by
      intro f' hf'
      have key := ih (j + 1) f' (by omega) hf'
      rw [← hu, sm] at key
      exact key
    rw [← hu]
    refine vl_X12_pays_54 _ _ _ _ _ _ _ ?_
    rw [z82, hD]
    refine ⟨fun h => absurd h (by omega), fun _ => cI (sp_isOf rj) ?_⟩
    rintro v s' ⟨y1, rfl⟩
    rw [z134, z137] at y1
    rw [w32_id (x := (j : Int) + 1) (by omega) (by omega), z136]
    refine ⟨fun e => ?_, fun e => ?_⟩
    · have e0 : ¬ (s 134 j = a ∧ s 137 j = r) := fun z => by rw [if_pos z] at y1; omega
      have ed : mpd s D a r j = 0 := by unfold mpd dw; rw [if_neg (fun z => e0 z.2)]
      have eu : u j = 0 := by
        rw [hu]
        dsimp only
        rw [ed, Int.mul_zero, Int.zero_ediv]
        split <;> rfl
      have key := nxt f (fun x x0 x1 => by
        rw [hf x x0 x1]
        by_cases ex : x = j
        · rw [ex, if_neg (fun z => e0 z.1), if_neg (fun z => e0 z.1)]
        · have : ((s 134 x = a ∧ s 137 x = r) ∧ x < j) ↔ ((s 134 x = a ∧ s 137 x = r) ∧ x < ((j + 1 : Nat) : Int)) := by omega
          rw [ifc this])
      rw [eu, Int.add_zero] at key
      exact key
    · have e0 : s 134 j = a ∧ s 137 j = r := by
        by_cases z : s 134 j = a ∧ s 137 j = r
        · exact z
        · rw [if_neg z] at y1; exact absurd y1 e
      have ed : mpd s D a r j = s 136 j := by unfold mpd dw; rw [if_pos ⟨by omega, e0⟩]
      have eu : u j = if sm (mpd s D a r) D ≤ has then s 136 j else has * s 136 j / sm (mpd s D a r) D := by rw [hu]; dsimp only; rw [ed]
      have hfn : ∀ val : Int, val = u j → ∀ x : Int, 0 ≤ x → x < D → fu f j val x = if (s 134 x = a ∧ s 137 x = r) ∧ x < ((j + 1 : Nat) : Int) then (if sm (mpd s D a r) D ≤ has then s 136 x else has * mpd s D a r x / sm (mpd s D a r) D) else s 138 x := by
        intro val hv x x0 x1
        rw [fu_app]
        by_cases ex : x = j
        · rw [ex, if_pos rfl, if_pos ⟨e0, by omega⟩, hv, eu, ed]
        · rw [if_neg ex, hf x x0 x1]
          have : ((s 134 x = a ∧ s 137 x = r) ∧ x < j) ↔ ((s 134 x = a ∧ s 137 x = r) ∧ x < ((j + 1 : Nat) : Int)) := by omega
          rw [ifc this]
      refine ⟨fun z => ⟨rj, ?_, rj, rj, ?_⟩, fun z => ⟨rj, rj, rj, ?_⟩⟩
      · rw [hw] at hsD; omega
      · have hpp : 0 < sm w D := by rw [hw]; omega
        have hmul : 0 ≤ has * s 136 j ∧ has * s 136 j ≤ 1000000000000000 := by
          refine ⟨Int.mul_nonneg hh.1 (by omega), ?_⟩
          exact Int.le_trans (Int.mul_le_mul hh.2 hSj.2 (by omega) (by omega)) (by omega)
        have hpe := pq_each (s := has) (w := w) (n := D) hh.1 hpp (fun i a _ => (hb' i a).1) (i := j) (by omega) (by omega)
        rw [hw, ed] at hpe
        have huj : u j = has * s 136 j / sm (mpd s D a r) D := by rw [eu, if_neg (by omega)]
        rw [w64_id (x := has * s 136 j) (by omega) (by omega), Int.tdiv_eq_ediv_of_nonneg hmul.1, w64_id (x := has * s 136 j / sm (mpd s D a r) D) (by omega) (by omega), w32_id (x := has * s 136 j / sm (mpd s D a r) D) (by omega) (by omega), ← huj, up_zc, zc_eq, zc_eq, fz]
        show am_E _ _ _ _ [_, _, _, _, _, vI (w32 (has - sm u j - fu f j (u j) j)), _] _ _ _
        rw [fu_eq, w32_id (by omega) (by omega), show has - sm u j - u j = has - (sm u j + u j) by omega]
        exact nxt _ (hfn _ rfl)
      · have huj : u j = s 136 j := by rw [eu, if_pos (by omega)]
        rw [← huj, up_zc, zc_eq, zc_eq, fz]
        show am_E _ _ _ _ [_, _, _, _, _, vI (w32 (has - sm u j - fu f j (u j) j)), _] _ _ _
        rw [fu_eq, w32_id (by omega) (by omega), show has - sm u j - u j = has - (sm u j + u j) by omega]
        exact nxt _ (hfn _ rfl)
end PD
