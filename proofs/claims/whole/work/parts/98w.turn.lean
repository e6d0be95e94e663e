/-! the model plays every order -/
def tuX (σ : AS) (n : Nat) (tt : List Nat) : Prop := ∀ x : Nat, x < n → σ 128 (x : Int) = ((tt.getD x 0 : Nat) : Int)
section MB
variable {Ln : Int} {d : Nat} {C σ : AS} {f : Int → Int} {a : Int} {n : Nat} {tt : List Nat}
def mbO (C : AS) (f : Int → Int) (a : Int) (tt : List Nat) (x y : Nat) : Prop := tt.getD x 0 ≠ tt.getD y 0 ∧ LWO C (f (a + (tt.getD x 0 : Nat))) (f (a + (tt.getD y 0 : Nat)))
theorem lp_mayBe11 (hn6 : n ≤ 6) (hT : tuX σ n tt) (htt : tt.length = n) (hb : ∀ x ∈ tt, x < n) (hD : ∀ x : Nat, x < n → σ 127 x = f (a + x) ∧ 0 ≤ f (a + x) ∧ f (a + x) < 100) (e91 : σ 91 = C 14) (e92 : σ 92 = C 15) {i : Nat} (hi : i < n) {Q : Option AV → AS → Prop} (hno : ¬ (∀ y : Nat, i < y → y < n → mbO C f a tt i y) → Q (some (vI 0)) σ) (hyes : (∀ y : Nat, i < y → y < n → mbO C f a tt i y) → am_E Ln d 217 2 [vR 82, vI (n : Int), vI ((i + 1 : Nat) : Int), vU] [] σ Q) : ∀ (m : Nat) (j : Nat), j + m = n → i < j → (∀ y : Nat, i < y → y < j → mbO C f a tt i y) →
    am_E Ln d 217 11 [vR 82, vI (n : Int), vI (i : Int), vI (j : Int)] [] σ Q := by
  intro m
  induction m with
  | zero =>
    intro j hj hij hall
    refine vl_X12_mayBe_11 _ _ _ _ ⟨fun _ => ?_, fun q => absurd (by omega) q⟩
    rw [w32_id (x := (i : Int) + 1) (by omega) (by omega)]
    exact hyes (fun y y0 y1 => hall y y0 (by omega))
  | succ m ih =>
    intro j hj hij hall
    have t1 := hT i hi
    have t2 := hT j (by omega)
    have l1 := getD_lt htt hb hi
    have l2 := getD_lt htt hb (x := j) (by omega)
    obtain ⟨d1, d2, d3⟩ := hD _ l1
    obtain ⟨c1, c2, c3⟩ := hD _ l2
    refine vl_X12_mayBe_11 _ _ _ _ ⟨fun q => absurd q (by omega), fun _ => ⟨by omega, by omega, fun e => ⟨am_b0, hno (fun q => ?_)⟩, fun e => ?_⟩⟩
    · rw [t1, t2] at e
      exact (q j hij (by omega)).1 (by omega)
    · rw [t1, t2, d1, c1, e91, e92, w32_id (x := (j : Int) + 1) (by omega) (by omega)]
      refine ⟨by omega, by omega, by omega, by omega, by omega, by omega, fun e2 => ?_, fun e2 => ⟨am_b0, hno (fun q => e2 (q j hij (by omega)).2)⟩⟩
      refine ih (j + 1) (by omega) (by omega) (fun y y0 y1 => ?_)
      by_cases z : y = j
      · rw [z]
        rw [t1, t2] at e
        exact ⟨fun q => e (by rw [q]), e2⟩
      · exact hall y y0 (by omega)
theorem lp_mayBe2 (hn6 : n ≤ 6) (hT : tuX σ n tt) (htt : tt.length = n) (hb : ∀ x ∈ tt, x < n) (hD : ∀ x : Nat, x < n → σ 127 x = f (a + x) ∧ 0 ≤ f (a + x) ∧ f (a + x) < 100) (e91 : σ 91 = C 14) (e92 : σ 92 = C 15) : ∀ (m i : Nat), i + m = n → (∀ x y : Nat, x < i → x < y → y < n → mbO C f a tt x y) →
    am_E Ln d 217 2 [vR 82, vI (n : Int), vI (i : Int), vU] [] σ (am_rI fun r s' => s' = σ ∧ (r ≠ 0 ↔ ∀ x y : Nat, x < y → y < n → mbO C f a tt x y)) := by
  intro m
  induction m with
  | zero =>
    intro i hi hall
    exact vl_X12_mayBe_2 _ _ _ ⟨fun _ => ⟨am_b1, rfl, fun _ x y xy y1 => hall x y (by omega) xy y1, fun _ => by decide⟩, fun q => absurd (by omega) q⟩
  | succ m ih =>
    intro i hi hall
    refine vl_X12_mayBe_2 _ _ _ ⟨fun q => absurd q (by omega), fun _ => ?_⟩
    rw [w32_id (x := (i : Int) + 1) (by omega) (by omega)]
    refine lp_mayBe11 hn6 hT htt hb hD e91 e92 (by omega) (fun q => ⟨rfl, fun z => absurd rfl z, fun z => absurd (fun y y0 y1 => z i y y0 y1) q⟩) (fun q => ih (i + 1) (by omega) (fun x y x1 xy y1 => ?_)) m (i + 1) (by omega) (by omega) (fun y y0 y1 => absurd y1 (by omega))
    by_cases z : x = i
    · rw [z]; exact q y (by omega) y1
    · exact hall x y (by omega) xy y1
theorem mb_iff (htt : tt.length = n) : (∀ x y : Nat, x < y → y < n → mbO C f a tt x y) ↔ (ndB tt && lwB C (tt.map (fun j : Nat => f (a + j)))) = true := by
  rw [Bool.and_eq_true, ndB_iff, lwB_iff, List.pairwise_map]
  unfold List.Nodup
  rw [List.pairwise_iff_getElem, List.pairwise_iff_getElem]
  have gd : ∀ (x : Nat) (h : x < tt.length), tt.getD x 0 = tt[x] := fun x h => by
    rw [List.getD_eq_getElem?_getD, List.getElem?_eq_getElem h]
    rfl
  constructor
  · intro h
    refine ⟨fun i j hi hj hij => ?_, fun i j hi hj hij => ?_⟩
    · have := (h i j hij (by omega)).1
      rw [gd i hi, gd j hj] at this
      exact this
    · have := (h i j hij (by omega)).2
      rw [gd i hi, gd j hj] at this
      exact this
  · rintro ⟨h1, h2⟩ x y xy y1
    unfold mbO
    rw [gd x (by omega), gd y (by omega)]
    exact ⟨h1 x y (by omega) (by omega) xy, h2 x y (by omega) (by omega) xy⟩
theorem sp_mayBe (hn6 : n ≤ 6) (hT : tuX σ n tt) (htt : tt.length = n) (hb : ∀ x ∈ tt, x < n) (hD : ∀ x : Nat, x < n → σ 127 x = f (a + x) ∧ 0 ≤ f (a + x) ∧ f (a + x) < 100) (e91 : σ 91 = C 14) (e92 : σ 92 = C 15) :
    am_M Ln (d + 1) 217 [vR 82, vI (n : Int)] σ (am_rI fun r s' => s' = σ ∧ (r ≠ 0 ↔ (ndB tt && lwB C (tt.map (fun j : Nat => f (a + j)))) = true)) := by
  refine vm_X12_mayBe _ _ (am_EI (lp_mayBe2 (C := C) hn6 hT htt hb hD e91 e92 n 0 (by omega) (fun x y x1 => absurd x1 (by omega))) ?_)
  rintro r s' ⟨h1, h2⟩
  exact ⟨h1, h2.trans (mb_iff htt)⟩
/-! the model turns to the next tuple -/
theorem tnx_s {m : Nat} : tnx n (m + 1) tt = if tt.getD m 0 = n - 1 then tnx n m (tt.set m 0) else some (tt.set m (tt.getD m 0 + 1)) := by
  rw [tnx]
  cases hb : Nat.beq (tt.getD m 0) (n - 1) with
  | true => rw [if_pos (Nat.eq_of_beq_eq_true hb)]
  | false => rw [if_neg (fun q => by rw [q, show Nat.beq (n - 1) (n - 1) = true from Nat.beq_refl _] at hb; cases hb)]
theorem tuX_set {v i : Nat} (hT : tuX σ n tt) (hl : tt.length = n) (hi : i < n) : tuX (am_up σ 128 i v) n (tt.set i v) := by
  intro x hx
  rw [am_up_eq, getD_set]
  by_cases e : x = i
  · rw [if_pos (by omega), if_pos ⟨e, by omega⟩]
  · rw [if_neg (by omega), if_neg (fun q => e q.1)]
    exact hT x hx
theorem lp_turns (hn6 : n ≤ 6) : ∀ (m : Nat) (tt : List Nat) (σ1 : AS), m ≤ n → tt.length = n → tuX σ1 n tt → Fr [128] [] σ σ1 → (∀ x ∈ tt, x < n) →
    am_E Ln d 219 4 [vR 82, vI (n : Int), vI ((m : Int) - 1)] [] σ1 (am_rI fun r s' => Fr [128] [] σ s' ∧ (tnx n m tt = none → r = 0) ∧ ∀ t', tnx n m tt = some t' → r = 1 ∧ tuX s' n t') := by
  intro m
  induction m with
  | zero =>
    intro tt σ1 hm hl hT hfr hb
    exact vl_X12_turns_4 _ _ _ ⟨fun _ => ⟨fun q => absurd q (by omega), fun _ => ⟨am_b0, hfr, fun _ => rfl, fun t' h => (by cases h)⟩⟩, fun q => absurd (by omega) q⟩
  | succ m ih =>
    intro tt σ1 hm hl hT hfr hb
    have t1 := hT m (by omega)
    have l1 := getD_lt hl hb (x := m) (by omega)
    refine vl_X12_turns_4 _ _ _ ⟨fun q => absurd q (by omega), fun _ => ?_⟩
    rw [show ((m + 1 : Nat) : Int) - 1 = (m : Int) by omega, t1, w32_id (x := (n : Int) - 1) (by omega) (by omega), w32_id (x := (m : Int) + -1) (by omega) (by omega), w32_id (x := ((tt.getD m 0 : Nat) : Int) + 1) (by omega) (by omega)]
    refine ⟨by omega, fun e => ⟨by omega, ?_⟩, fun e => ⟨fun _ => ⟨by omega, by omega, am_b1, hfr.up (Or.inl (by decide)), ?_, ?_⟩, fun q => absurd (by omega) q⟩⟩
    · rw [tnx_s, if_pos (by omega)]
      have := ih (tt.set m 0) (am_up σ1 128 m 0) (by omega) (by rw [List.length_set]; exact hl) (tuX_set (v := 0) hT hl (by omega)) (hfr.up (Or.inl (by decide))) (fun x hx => by
        rcases List.mem_or_eq_of_mem_set hx with h | h
        · exact hb x h
        · rw [h]; omega)
      rw [show (m : Int) - 1 = (m : Int) + -1 by omega] at this
      exact this
    · intro h
      rw [tnx_s, if_neg (by omega)] at h
      cases h
    · intro t' h
      rw [tnx_s, if_neg (by omega)] at h
      cases h
      refine ⟨rfl, ?_⟩
      have := tuX_set (v := tt.getD m 0 + 1) hT hl (i := m) (by omega)
      rw [show ((tt.getD m 0 + 1 : Nat) : Int) = ((tt.getD m 0 : Nat) : Int) + 1 by omega] at this
      exact this
theorem sp_turns (hn6 : n ≤ 6) (hl : tt.length = n) (hT : tuX σ n tt) (hb : ∀ x ∈ tt, x < n) : am_M Ln (d + 1) 219 [vR 82, vI (n : Int)] σ (am_rI fun r s' => Fr [128] [] σ s' ∧ (tnx n n tt = none → r = 0) ∧ ∀ t', tnx n n tt = some t' → r = 1 ∧ tuX s' n t') := by
  refine vm_X12_turns _ _ ?_
  rw [w32_id (x := (n : Int) - 1) (by omega) (by omega)]
  exact lp_turns hn6 n tt σ (Nat.le_refl n) hl hT Fr.rf hb
end MB
section MO
variable {Ln : Int} {d : Nat} {C σ0 : AS} {nn n : Nat} {G : Int → GF} {f : Int → Int} {a R t p o : Int} {tt : List Nat}
def poX : List Nat := [113, 114, 115, 116, 117, 118, 119, 120, 122, 123, 124, 125]
theorem lp_plOrd (hI : INV C nn G) (hf0 : Fr wkX wkF C σ0) (h121 : ∀ q : Int, 0 ≤ q → q < 10 → σ0 121 q = -1) (h63 : σ0 82 63 = R) (hR : R ≤ 100) (ha : 0 ≤ a) (haR : a + n ≤ R) (hn6 : n ≤ 6) (h126 : ∀ x : Int, 0 ≤ x → x < R → σ0 126 x = f x) (h82 : σ0 82 2 = t)
    (hf : ∀ x : Int, 0 ≤ x → x < R → 0 ≤ f x ∧ f x < C 7 11) (hT : tuX σ0 n tt) (hl : tt.length = n) (hb : ∀ x ∈ tt, x < n) (hD : ∀ x : Nat, x < n → σ0 127 x = f (a + x)) (hp : 0 ≤ p ∧ p < 10) {st : Int × Int × Nat} (hst : (σ0 82 66, σ0 82 67, σ0 82 65) = ((st.1, st.2.1, (st.2.2 : Int)) : Int × Int × Int)) (hc : st.2.2 ≤ 50000) :
    ∀ (q : Nat) (j : Int) (σ : AS), 0 ≤ j → j + q = R → RM (mpl C (findF C G) t fo0 (rl j (pat f a n (fun k => f (a + k)) tt)) m0) σ → Fr poX [(82, 54)] σ0 σ →
    am_E Ln (d + 8) 218 7 [vR 82, vI p, vI o, vI a, vI (n : Int), vI j, vU, vU] [] σ (am_rV fun σ' => Fr poX [(82, 54), (82, 65), (82, 66), (82, 67)] σ0 σ' ∧ (σ' 82 66, σ' 82 67, σ' 82 65) = (((st1 st (valO C (findF C G) t p o (rl a f) (rl (R - a - n) (fun x => f (a + (n + x)))) (tt.map (fun k : Nat => f (a + k))))).1, (st1 st (valO C (findF C G) t p o (rl a f) (rl (R - a - n) (fun x => f (a + (n + x)))) (tt.map (fun k : Nat => f (a + k))))).2.1, ((st1 st (valO C (findF C G) t p o (rl a f) (rl (R - a - n) (fun x => f (a + (n + x)))) (tt.map (fun k : Nat => f (a + k))))).2.2 : Int)) : Int × Int × Int)) := by
  have hL := hI.1.2.2.2.2.1
  have hin : ∀ x : Int, 0 ≤ x → x < R → (0 ≤ pat f a n (fun k => f (a + k)) tt x ∧ pat f a n (fun k => f (a + k)) tt x < C 7 11) := by
    intro x x0 x1
    obtain ⟨y, hy, e⟩ := pat_in (f := f) ha haR hl hb x0 x1
    rw [e]
    exact hf y hy.1 hy.2
  have hins : ∀ j : Int, j ≤ R → ∀ x ∈ rl j (pat f a n (fun k => f (a + k)) tt), 0 ≤ x ∧ x < C 7 11 := by
    intro j hj x hx
    obtain ⟨y, y0, y1, y2⟩ := rl_mem.mp hx
    rw [← y2]
    exact hin y y0 (by omega)
  have hF := ruM_find (Ln := Ln) hI.1.1 hI.2.2.1 hI.1.2.1 hI.1.2.2.1
  intro q
  induction q with
  | zero =>
    intro j σ h0 hj hr hfr
    obtain rfl : j = R := by omega
    refine vl_X12_playsOrder_7 _ _ _ _ _ _ ⟨fun _ => ?_, fun z => absurd ?_ z⟩
    · have hsp : rl j (pat f a n (fun k => f (a + k)) tt) = rl a f ++ (tt.map (fun k : Nat => f (a + k)) ++ rl (j - a - n) (fun x => f (a + (n + x)))) := by
        rw [rl_split (a := a) _ ha (by omega), pat_rest hl haR]
        congr 1
        refine rl_congr (fun x x0 x1 => ?_)
        unfold pat
        rw [if_neg (by omega)]
      have hm := (mpl_okB (F := findF C G) (t := t) (fo := fo0) (is := rl j (pat f a n (fun k => f (a + k)) tt)) hI.1 (hins j (Int.le_refl j)) (by rw [rl_len]; omega)).1
      refine cI (sp_of hp (RM_T hr hm)) ?_
      rintro r s1 ⟨r1, rfl⟩
      rw [(hr.1 p hp.1 hp.2).1, hsp] at r1
      have hv : r = valO C (findF C G) t p o (rl a f) (rl (j - a - n) (fun x => f (a + (n + x)))) (tt.map (fun k : Nat => f (a + k))) := r1
      rw [← hv]
      obtain ⟨l0, mm, c0⟩ := st
      have g6 : s1 82 66 = l0 := by rw [hfr.fld 82 66 (by decide)]; exact (Prod.mk.inj hst).1
      have g7 : s1 82 67 = mm := by rw [hfr.fld 82 67 (by decide)]; exact (Prod.mk.inj (Prod.mk.inj hst).2).1
      have g5 : s1 82 65 = c0 := by rw [hfr.fld 82 65 (by decide)]; exact (Prod.mk.inj (Prod.mk.inj hst).2).2
      have hc' : c0 ≤ 50000 := hc
      rw [g6, g7, g5, w32_id (x := (c0 : Int) + 1) (by omega) (by omega)]
      have key : ∀ x y z : Int, x = (st1 (l0, mm, c0) r).1 → y = (st1 (l0, mm, c0) r).2.1 → z = ((st1 (l0, mm, c0) r).2.2 : Int) → (Fr poX [(82, 54), (82, 65), (82, 66), (82, 67)] σ0 (am_up (am_up (am_up s1 82 66 x) 82 67 y) 82 65 z) ∧ ((am_up (am_up (am_up s1 82 66 x) 82 67 y) 82 65 z) 82 66, (am_up (am_up (am_up s1 82 66 x) 82 67 y) 82 65 z) 82 67, (am_up (am_up (am_up s1 82 66 x) 82 67 y) 82 65 z) 82 65) = (((st1 (l0, mm, c0) r).1, (st1 (l0, mm, c0) r).2.1, ((st1 (l0, mm, c0) r).2.2 : Int)) : Int × Int × Int)) := by
        intro x y z hx hy hz
        refine ⟨Fr.up (Fr.up (Fr.up (hfr.mo (by decide) (by decide)) (Or.inr (by decide))) (Or.inr (by decide))) (Or.inr (by decide)), ?_⟩
        rw [am_up_eq, am_up_eq, am_up_eq, am_up_eq, am_up_eq, am_up_eq, am_up_eq, ← hx, ← hy, ← hz]
        simp
      have kz : (c0 : Int) = 0 → (st1 (l0, mm, c0) r) = (r, r, 1) := fun z => by
        rw [show c0 = 0 by omega]; rfl
      have ks : ¬ (c0 : Int) = 0 → (st1 (l0, mm, c0) r) = (min l0 r, max mm r, c0 + 1) := fun z => by
        obtain ⟨e, rfl⟩ : ∃ e, c0 = e + 1 := ⟨c0 - 1, by omega⟩
        rfl
      refine ⟨fun z => ⟨fun _ => ?_, fun z2 => absurd z z2⟩, fun z => ⟨fun y => ⟨fun z2 => absurd z2 z, fun _ => ⟨fun y2 => ?_, fun y2 => ?_⟩⟩, fun y => ⟨fun z2 => absurd z2 z, fun _ => ⟨fun y2 => ?_, fun y2 => ?_⟩⟩⟩⟩
      · exact key _ _ _ (by rw [kz z]) (by rw [kz z]) (by rw [kz z, z]; rfl)
      · exact key _ _ _ (by rw [ks z]; show l0 = min l0 r; omega) (by rw [ks z]; show mm = max mm r; omega) (by rw [ks z]; show (c0 : Int) + 1 = ((c0 + 1 : Nat) : Int); omega)
      · exact key _ _ _ (by rw [ks z]; show l0 = min l0 r; omega) (by rw [ks z]; show r = max mm r; omega) (by rw [ks z]; show (c0 : Int) + 1 = ((c0 + 1 : Nat) : Int); omega)
      · exact key _ _ _ (by rw [ks z]; show r = min l0 r; omega) (by rw [ks z]; show mm = max mm r; omega) (by rw [ks z]; show (c0 : Int) + 1 = ((c0 + 1 : Nat) : Int); omega)
      · exact key _ _ _ (by rw [ks z]; show r = min l0 r; omega) (by rw [ks z]; show r = max mm r; omega) (by rw [ks z]; show (c0 : Int) + 1 = ((c0 + 1 : Nat) : Int); omega)
    · rw [hfr.fld 82 63 (by decide), h63]; omega
  | succ q ih =>
    intro j σ h0 hj hr hfr
    have fC : Fr wkX wkF C σ := hf0.tr (hfr.mo (by decide) (by decide))
    have e63 : σ 82 63 = R := by rw [hfr.fld 82 63 (by decide), h63]
    have e2 : σ 82 2 = t := by rw [hfr.fld 82 2 (by decide), h82]
    have u121 : ∀ p : Int, 0 ≤ p → p < 10 → σ 121 p = fo0 p ∧ -1 ≤ fo0 p ∧ fo0 p ≤ 4 := fun p p0 p1 => ⟨by rw [hfr.cell 121 (by decide)]; exact h121 p p0 p1, by show (-1 : Int) ≤ -1; omega, by show (-1 : Int) ≤ 4; omega⟩
    have hi := hin j h0 (by omega)
    -- one line is played
    have go : ∀ x : Int, x = pat f a n (fun k => f (a + k)) tt j → ∃ T : Option AV → AS → Prop, am_M Ln (d + 8) 202 [vR 82, vI x, vI t] σ T ∧ ∀ (r6 : Int) s5, T (some (vI r6)) s5 → am_E Ln (d + 8) 218 7 [vR 82, vI p, vI o, vI a, vI (n : Int), vI (w32 (j + 1)), vU, vU] [] s5 (am_rV fun σ' => Fr poX [(82, 54), (82, 65), (82, 66), (82, 67)] σ0 σ' ∧ (σ' 82 66, σ' 82 67, σ' 82 65) = (((st1 st (valO C (findF C G) t p o (rl a f) (rl (R - a - n) (fun x => f (a + (n + x)))) (tt.map (fun k : Nat => f (a + k))))).1, (st1 st (valO C (findF C G) t p o (rl a f) (rl (R - a - n) (fun x => f (a + (n + x)))) (tt.map (fun k : Nat => f (a + k))))).2.1, ((st1 st (valO C (findF C G) t p o (rl a f) (rl (R - a - n) (fun x => f (a + (n + x)))) (tt.map (fun k : Nat => f (a + k))))).2.2 : Int)) : Int × Int × Int)) := by
      intro x hx
      rw [hx]
      refine cI (sp_actsL (d := d) hI.1 hF fC u121 (hins j (by omega)) (by rw [rl_len]; omega) hr hi) ?_
      rintro r s1 ⟨-, x2, x3, -⟩
      rw [w32_id (x := j + 1) (by omega) (by omega)]
      refine ih (j + 1) s1 (by omega) (by omega) ?_ (hfr.tr (x3.mo (by decide) (by decide)))
      rw [rl_succ _ h0, mpl_app]
      exact x2
    refine vl_X12_playsOrder_7 _ _ _ _ _ _ ⟨fun z => absurd z (by omega), fun _ => cI sp_mlies ?_⟩
    rintro r4 s3 ⟨l1, rfl⟩
    rw [w32_id (x := a + (n : Int)) (by omega) (by omega), w32_id (x := a + (n : Int) - 1) (by omega) (by omega)] at l1
    rw [e2]
    refine ⟨fun z => ⟨by omega, go _ ?_⟩, fun z => ?_⟩
    · rw [hfr.cell 126 (by decide), h126 j h0 (by omega)]
      unfold pat
      rw [if_neg (fun q => ?_)]
      rw [if_pos (by omega)] at l1
      omega
    · have hj2 : a ≤ j ∧ j < a + n := by
        by_cases y : a ≤ j ∧ j < a + n
        · exact y
        · rw [if_neg (by omega)] at l1; exact absurd l1 z
      rw [w32_id (x := j - a) (by omega) (by omega), hfr.cell 128 (by decide), hfr.cell 127 (by decide)]
      have t1 := hT (j - a).toNat (by omega)
      have l2 := getD_lt hl hb (x := (j - a).toNat) (by omega)
      rw [show (((j - a).toNat : Nat) : Int) = j - a by omega] at t1
      rw [t1]
      refine ⟨by omega, by omega, go _ ?_⟩
      rw [hD _ l2]
      unfold pat
      rw [if_pos hj2]
theorem sp_playsOrder (hI : INV C nn G) (hf0 : Fr wkX wkF C σ0) (h121 : ∀ q : Int, 0 ≤ q → q < 10 → σ0 121 q = -1) (h63 : σ0 82 63 = R) (hR : R ≤ 100) (ha : 0 ≤ a) (haR : a + n ≤ R) (hn6 : n ≤ 6) (h126 : ∀ x : Int, 0 ≤ x → x < R → σ0 126 x = f x) (h82 : σ0 82 2 = t)
    (hf : ∀ x : Int, 0 ≤ x → x < R → 0 ≤ f x ∧ f x < C 7 11) (hT : tuX σ0 n tt) (hl : tt.length = n) (hb : ∀ x ∈ tt, x < n) (hD : ∀ x : Nat, x < n → σ0 127 x = f (a + x)) (hp : 0 ≤ p ∧ p < 10) {st : Int × Int × Nat} (hst : (σ0 82 66, σ0 82 67, σ0 82 65) = ((st.1, st.2.1, (st.2.2 : Int)) : Int × Int × Int)) (hc : st.2.2 ≤ 50000) :
    am_M Ln (d + 9) 218 [vR 82, vI p, vI o, vI a, vI (n : Int)] σ0 (am_rV fun σ' => Fr poX [(82, 54), (82, 65), (82, 66), (82, 67)] σ0 σ' ∧ (σ' 82 66, σ' 82 67, σ' 82 65) = (((st1 st (valO C (findF C G) t p o (rl a f) (rl (R - a - n) (fun x => f (a + (n + x)))) (tt.map (fun k : Nat => f (a + k))))).1, (st1 st (valO C (findF C G) t p o (rl a f) (rl (R - a - n) (fun x => f (a + (n + x)))) (tt.map (fun k : Nat => f (a + k))))).2.1, ((st1 st (valO C (findF C G) t p o (rl a f) (rl (R - a - n) (fun x => f (a + (n + x)))) (tt.map (fun k : Nat => f (a + k))))).2.2 : Int)) : Int × Int × Int)) := by
  refine vm_X12_playsOrder _ _ _ _ _ (cV (sp_empties σ0) ?_)
  rintro s1 ⟨b1, b2⟩
  refine am_EV (lp_plOrd (d := d) (σ0 := s1) (t := t) (R := R) hI (hf0.tr (b1.mo (by decide) (by decide))) (by rw [b1.cell 121 (by decide)]; exact h121) (by rw [b1.fld 82 63 (by decide)]; exact h63) hR ha haR hn6 (by rw [b1.cell 126 (by decide)]; exact h126) (by rw [b1.fld 82 2 (by decide)]; exact h82) hf (fun x hx => by rw [b1.cell 128 (by decide)]; exact hT x hx) hl hb (by rw [b1.cell 127 (by decide)]; exact hD) hp (st := st) (by rw [b1.cell 82 (by decide)]; exact hst) hc R.toNat 0 s1 (by omega) (by omega) b2 Fr.rf) ?_
  rintro s ⟨x1, x2⟩
  exact ⟨(b1.mo (by decide) (by decide)).tr x1, x2⟩
end MO
