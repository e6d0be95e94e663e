/-! the class weighs the orders of a day -/
def orX : List Nat := [65, 51] ++ plX
def orF : List (Nat × Int) := (69, 4) :: (69, 5) :: (69, 6) :: plF
def cwX : List Nat := clX
def cwF : List (Nat × Int) := (69, 2) :: (69, 3) :: (69, 4) :: (69, 5) :: (69, 6) :: clF
def valO (C : AS) (F : FD) (t p o : Int) (pre post L : List Int) : Int := pof o ((mpl C F t fo0 (pre ++ (L ++ post)) m0).1 p)
theorem map_rl {s : Nat → Int} {t : List Nat} {n : Nat} (h : t.length = n) : t.map s = rl (n : Int) (fun x => s (t.getD x.toNat 0)) := by
  unfold rl
  apply List.ext_getElem
  · rw [List.length_map, List.length_map, List.length_range, h]; omega
  · intro i h1 h2
    rw [List.getElem_map, List.getElem_map, List.getElem_range]
    rw [List.length_map] at h1
    show s t[i] = s (t.getD ((i : Int)).toNat 0)
    rw [show ((i : Int)).toNat = i by omega, List.getD_eq_getElem?_getD, List.getElem?_eq_getElem h1]
    rfl
theorem pat_rl {f : Int → Int} {a : Int} {n : Nat} {s : Nat → Int} {t : List Nat} (h : t.length = n) : rl (n : Int) (fun x => pat f a n s t (a + x)) = t.map s := by
  rw [map_rl (s := s) h]
  refine rl_congr (fun x x0 x1 => ?_)
  unfold pat
  rw [if_pos (by omega), show a + x - a = x by omega]
theorem pat_rest {f : Int → Int} {a R : Int} {n : Nat} {s : Nat → Int} {t : List Nat} (h : t.length = n) (hR : a + n ≤ R) : rl (R - a) (fun x => pat f a n s t (a + x)) = t.map s ++ rl (R - a - n) (fun x => f (a + (n + x))) := by
  rw [rl_split (a := (n : Int)) _ (by omega) (by omega), pat_rl h]
  congr 1
  refine rl_congr (fun x x0 x1 => ?_)
  unfold pat
  rw [if_neg (by omega)]
theorem pat_lw {C : AS} {f : Int → Int} {a : Int} {n : Nat} {s : Nat → Int} {t : List Nat} (h : t.length = n) : lwB C (t.map s) = true ↔ ∀ x y : Int, a ≤ x → x < y → y < a + n → LWO C (pat f a n s t x) (pat f a n s t y) := by
  rw [lwB_iff, ← pat_rl (f := f) (a := a) h, rl_pw]
  constructor
  · intro q x y x0 xy y1
    have := q (x - a) (y - a) (by omega) (by omega) (by omega)
    rw [show a + (x - a) = x by omega, show a + (y - a) = y by omega] at this
    exact this
  · intro q x y x0 xy y1
    exact q (a + x) (a + y) (by omega) (by omega) (by omega)
theorem pat_in {f : Int → Int} {a R : Int} {n : Nat} {t : List Nat} (ha : 0 ≤ a) (hR : a + n ≤ R) (h : t.length = n) (hb : ∀ x ∈ t, x < n) {x : Int} (x0 : 0 ≤ x) (x1 : x < R) : ∃ y : Int, (0 ≤ y ∧ y < R) ∧ pat f a n (fun k => f (a + k)) t x = f y := by
  unfold pat
  by_cases e : a ≤ x ∧ x < a + n
  · rw [if_pos e]
    have hi : (x - a).toNat < t.length := by omega
    have := hb _ (List.getElem_mem hi)
    refine ⟨a + (t.getD (x - a).toNat 0 : Nat), ?_, rfl⟩
    rw [List.getD_eq_getElem?_getD, List.getElem?_eq_getElem hi]
    show 0 ≤ a + ((t[(x - a).toNat] : Nat) : Int) ∧ a + ((t[(x - a).toNat] : Nat) : Int) < R
    omega
  · rw [if_neg e]
    exact ⟨x, ⟨x0, x1⟩, rfl⟩
theorem getD_lt {t : List Nat} {n x : Nat} (h : t.length = n) (hb : ∀ x ∈ t, x < n) (hx : x < n) : t.getD x 0 < n := by
  have hi : x < t.length := by omega
  rw [List.getD_eq_getElem?_getD, List.getElem?_eq_getElem hi]
  exact hb _ (List.getElem_mem hi)
section WG
variable {Ln : Int} {d : Nat} {C s0 a0 : AS} {nn n : Nat} {G : Int → GF} {f : Int → Int} {a R t p o : Int}
theorem lp_weigh (hI : INV C nn G) (hs0 : Fr cwX cwF C s0) (h9 : s0 40 9 = t) (h66 : ∀ q : Int, 0 ≤ q → q < 10 → s0 66 q = -1) (h7 : s0 40 7 = R) (hR : R ≤ 100) (ha : 0 ≤ a) (haR : a + n ≤ R) (h2 : s0 69 2 = a) (h3 : s0 69 3 = a + n) (hn6 : n ≤ 6)
    (hf : ∀ x : Int, 0 ≤ x → x < R → 0 ≤ f x ∧ f x < C 7 11) (hK : KP a0 s0) (hpre : RX (mpl C (findF C G) t fo0 (rl a f) m0) a0) (hmo : ∀ x y : Nat, x < y → y < n → f (a + x) < f (a + y)) (hp : 0 ≤ p ∧ p < 10) (ho : 0 ≤ o ∧ o < 10) :
    ∀ (k : Nat) (tt : List Nat) (st : Int × Int × Nat) (x5 : Int) (σ : AS), Fr orX orF s0 σ → 0 ≤ σ 41 9 → σ 65 = pat f a n (fun j => f (a + j)) tt → (σ 69 4, σ 69 5, σ 69 6) = ((st.1, st.2.1, (st.2.2 : Int)) : Int × Int × Int) → st.2.2 + k ≤ 720 → k ≤ 720 → (x5 ≠ 0 → ∀ u ∈ seqG n k tt, u ∈ tups n n) →
    am_E Ln (d + 6) 23 77 [vR 69, vI p, vI o, vU, vU, vI x5, vI (720 - k)] [] σ (am_rI fun r s' => r = 1 ∧ Fr orX orF s0 s' ∧ ∃ st' : Int × Int × Nat, (s' 69 4, s' 69 5, s' 69 6) = ((st'.1, st'.2.1, (st'.2.2 : Int)) : Int × Int × Int) ∧ (x5 = 0 → st' = st) ∧ (x5 ≠ 0 → st' = stA ((((seqG n k tt).map (fun u => u.map (fun j : Nat => f (a + j)))).filter (lwB C)).map (valO C (findF C G) t p o (rl a f) (rl (R - a - n) (fun x => f (a + (n + x)))))) st)) := by
  intro k
  induction k with
  | zero =>
    intro tt st x5 σ hσ g9 h65 hst hc hk hv
    refine vl_X4_weigh_77 _ _ _ _ _ ⟨fun _ => ⟨am_b1, rfl, hσ, st, hst, fun _ => rfl, fun _ => rfl⟩, fun q => absurd (by omega) q⟩
  | succ k ih =>
    intro tt st x5 σ hσ g9 h65 hst hc hk hv
    refine vl_X4_weigh_77 _ _ _ _ _ ⟨fun q => absurd q (by omega), fun _ => ⟨fun e5 => ⟨am_b1, rfl, hσ, st, hst, fun _ => rfl, fun q => absurd e5 q⟩, fun e5 => ?_⟩⟩
    have htt := tups_mem.mp (hv e5 tt (by rw [seqG]; exact List.mem_cons_self))
    have u2 : σ 69 2 = a := by rw [hσ.fld 69 2 (by decide), h2]
    have u3 : σ 69 3 = a + n := by rw [hσ.fld 69 3 (by decide), h3]
    have fC : Fr wkX wkF C σ := (hs0.mo (by decide) (by decide)).tr (hσ.mo (by decide) (by decide))
    have hL := hI.1.2.2.2.2.1
    have hin : ∀ x : Int, 0 ≤ x → x < R → (0 ≤ σ 65 x ∧ σ 65 x < C 7 11) := by
      intro x x0 x1
      rw [h65]
      obtain ⟨y, hy, e⟩ := pat_in (f := f) ha haR htt.1 htt.2 x0 x1
      rw [e]
      exact hf y hy.1 hy.2
    have hmo' : ∀ x y : Nat, x < n → y < n → (f (a + (tt.getD x 0 : Nat)) ≤ f (a + (tt.getD y 0 : Nat)) ↔ tt.getD x 0 ≤ tt.getD y 0) := by
      intro x y hx hy
      have l1 := getD_lt htt.1 htt.2 hx
      have l2 := getD_lt htt.1 htt.2 hy
      constructor
      · intro q
        by_cases z : tt.getD y 0 < tt.getD x 0
        · have := hmo _ _ z l1; omega
        · omega
      · intro q
        by_cases z : tt.getD x 0 = tt.getD y 0
        · rw [z]; omega
        · have := hmo _ _ (by omega : tt.getD x 0 < tt.getD y 0) l2; omega
    have ek : w32 (720 - ((k + 1 : Nat) : Int) + 1) = 720 - (k : Int) := by rw [w32_id (by omega) (by omega)]; omega
    -- on to the next
    have nx : ∀ (st1' : Int × Int × Nat) (σ1 : AS), Fr orX orF s0 σ1 → 0 ≤ σ1 41 9 → σ1 65 = pat f a n (fun j => f (a + j)) tt → (σ1 69 4, σ1 69 5, σ1 69 6) = ((st1'.1, st1'.2.1, (st1'.2.2 : Int)) : Int × Int × Int) → st1'.2.2 + k ≤ 720 →
        (st1' = stA ((([tt].map (fun u => u.map (fun j : Nat => f (a + j)))).filter (lwB C)).map (valO C (findF C G) t p o (rl a f) (rl (R - a - n) (fun x => f (a + (n + x)))))) st) →
        ∃ T : Option AV → AS → Prop, am_M Ln (d + 6) 28 [vR 69] σ1 T ∧ ∀ (r4 : Int) s3, T (some (vI r4)) s3 → am_E Ln (d + 6) 23 77 [vR 69, vI p, vI o, vU, vU, vI r4, vI (w32 (720 - ((k + 1 : Nat) : Int) + 1))] [] s3 (am_rI fun r s' => r = 1 ∧ Fr orX orF s0 s' ∧ ∃ st' : Int × Int × Nat, (s' 69 4, s' 69 5, s' 69 6) = ((st'.1, st'.2.1, (st'.2.2 : Int)) : Int × Int × Int) ∧ (x5 = 0 → st' = st) ∧ (x5 ≠ 0 → st' = stA ((((seqG n (k + 1) tt).map (fun u => u.map (fun j : Nat => f (a + j)))).filter (lwB C)).map (valO C (findF C G) t p o (rl a f) (rl (R - a - n) (fun x => f (a + (n + x)))))) st)) := by
      intro st1' σ1 k1 k2 k3 k4 k5 k6
      refine cI (sp_goToNext (d := d + 3) (s := fun j => f (a + j)) ha (by omega) (by rw [k1.fld 69 2 (by decide), h2]) (by rw [k1.fld 69 3 (by decide), h3]) k3 htt.1 hmo') ?_
      rintro r4 s3 ⟨y1, y2⟩
      rw [ek]
      cases hg : goN n tt with
      | none =>
        obtain ⟨z1, z2⟩ := y1 hg
        subst z1
        subst z2
        refine am_EI (ih tt st1' 0 s3 k1 k2 k3 k4 k5 (by omega) (fun q => absurd rfl q)) ?_
        rintro r s' ⟨w1, w2, st', w3, w4, -⟩
        refine ⟨w1, w2, st', w3, fun q => absurd q e5, fun _ => ?_⟩
        rw [w4 rfl, k6, seqG, hg]
      | some q =>
        obtain ⟨z1, z2⟩ := y2 q hg
        subst z1
        subst z2
        refine am_EI (ih q st1' 1 _ (Fr.cl k1 (by decide)) (by rw [zc_ne (by decide)]; exact k2) zc_eq (by rw [zc_ne (by decide)]; exact k4) k5 (by omega) (fun _ u hu => hv e5 u (by rw [seqG, hg]; exact List.mem_cons_of_mem _ hu))) ?_
        rintro r s' ⟨w1, w2, st', w3, -, w4⟩
        refine ⟨w1, w2, st', w3, fun q => absurd q e5, fun _ => ?_⟩
        rw [w4 (by decide), k6, seqG, hg]
        show stA _ (stA _ _) = stA ((List.filter (lwB C) (List.map (fun u => List.map (fun j : Nat => f (a + j)) u) ([tt] ++ seqG n k q))).map _) _
        rw [List.map_append, List.filter_append, List.map_append]
        unfold stA
        rw [List.foldl_append]
    refine cI (sp_isLawO (C := C) ha (by omega) (by omega) u2 u3 h65 (fun x x0 x1 => by have := hin x (by omega) (by omega); rw [h65] at this; omega) (fC.cell 14 (by decide)) (fC.cell 15 (by decide))) ?_
    rintro v s1 ⟨rfl, hv1⟩
    rw [← pat_lw htt.1] at hv1
    have hcc : st.2.2 ≤ 720 - (k + 1) := by omega
    refine ⟨fun e => nx st s1 hσ g9 h65 hst (by omega) ?_, fun e => ?_⟩
    · have hl : lwB C (tt.map (fun j : Nat => f (a + j))) = false := by
        cases hb : lwB C (tt.map (fun j : Nat => f (a + j))) with
        | false => rfl
        | true => exact absurd e (hv1.mpr hb)
      rw [List.map_cons, List.map_nil, List.filter_cons, if_neg (by rw [hl]; decide), List.filter_nil]
      rfl
    · have hl := hv1.mp e
      have hKs : KP a0 s1 := by
        unfold KP at hK ⊢
        rw [hσ.fld 53 3 (by decide), hσ.cell 54 (by decide), hσ.cell 55 (by decide), hσ.cell 56 (by decide), hσ.cell 57 (by decide), hσ.cell 58 (by decide), hσ.cell 59 (by decide)]
        exact hK
      refine cV (sp_goBack (d := d + 4) hpre hKs) ?_
      rintro s5 ⟨x1, x2⟩
      have f5 : Fr orX orF s0 s5 := hσ.tr (x2.mo (by decide) (by decide))
      have v65 : s5 65 = s1 65 := x2.cell 65 (by decide)
      have v407 : s5 40 7 = R := by rw [f5.fld 40 7 (by decide), h7]
      have v2 : s5 69 2 = a := by rw [f5.fld 69 2 (by decide), h2]
      have f5C : Fr wkX wkF C s5 := fC.tr (x2.mo (by decide) (by decide))
      have hpm : MI a (mpl C (findF C G) t fo0 (rl a f) m0) := by
        have hh := (mpl_okB (F := findF C G) (t := t) (fo := fo0) (is := rl a f) hI.1 (fun x hx => by
          obtain ⟨y, y0, y1, y2⟩ := rl_mem.mp hx
          rw [← y2]
          exact hf y y0 (by omega)) (by rw [rl_len]; omega)).1
        rw [rl_len, show ((a.toNat : Nat) : Int) = a by omega] at hh
        exact hh
      rw [v2, v407]
      refine cV (sp_play (d := d) (fo := fo0) (n := R) (t := t) (ruX_find hI.2.2.1) hI.1.2.2.2.1 x1 hpm f5C (by rw [f5.fld 40 9 (by decide)]; exact h9) (by rw [x2.fld 41 9 (by decide)]; exact g9) (fun q q0 q1 => ⟨by rw [f5.cell 66 (by decide)]; exact h66 q q0 q1, by show (-1 : Int) ≤ -1; omega, by show (-1 : Int) ≤ 4; omega⟩) (by rw [v407]; omega) (by omega) (fun x q0 q1 => by
        rw [v65]
        have := hin x q0 q1
        exact (hI.1.2.2.2.2.2.2 _ this.1 this.2).1) ha) ?_
      rintro s6 ⟨z1, z2, z3, -⟩
      have hrl : rl (R - a) (fun x => s5 65 (a + x)) = tt.map (fun j : Nat => f (a + j)) ++ rl (R - a - n) (fun x => f (a + (n + x))) := by
        rw [v65, h65]
        exact pat_rest htt.1 haR
      rw [hrl, ← mpl_app] at z1
      have hall := mpl_okB (F := findF C G) (t := t) (fo := fo0) (is := rl a f ++ (tt.map (fun j : Nat => f (a + j)) ++ rl (R - a - n) (fun x => f (a + (n + x))))) hI.1 (fun x hx => by
        rcases List.mem_append.mp hx with hx | hx
        · obtain ⟨y, y0, y1, y2⟩ := rl_mem.mp hx
          rw [← y2]
          exact hf y y0 (by omega)
        · rw [← hrl] at hx
          obtain ⟨y, y0, y1, y2⟩ := rl_mem.mp hx
          rw [← y2]
          show 0 ≤ s5 65 (a + y) ∧ s5 65 (a + y) < C 7 11
          rw [v65]
          exact hin _ (by omega) (by omega)) (by rw [List.length_append, ← hrl, rl_len, rl_len]; omega)
      have hps := hall.1.2.1 p hp.1 (by omega)
      have hlen : (rl a f ++ (tt.map (fun j : Nat => f (a + j)) ++ rl (R - a - n) (fun x => f (a + (n + x))))).length ≤ 100 := by
        rw [List.length_append, ← hrl, rl_len, rl_len]; omega
      have f6 : Fr orX orF s0 s6 := f5.tr (z2.mo (by decide) (by decide))
      refine cI (sp_held (d := d + 3) (RX_T z1 hall.1 z3) (by rw [z1.2.1 p hp.1 hp.2]; omega)) ?_
      rintro r8 s7 ⟨w1, w2⟩
      rw [if_pos ho, z1.2.1 p hp.1 hp.2] at w1
      have f7 : Fr orX orF s0 s7 := f6.tr (w2.mo (by decide) (by decide))
      have e69 : s7 69 = s1 69 := by
        rw [w2.cell 69 (by decide), z2.cell 69 (by decide), x2.cell 69 (by decide)]
      obtain ⟨l0, m0', c0⟩ := st
      have q4 : s1 69 4 = l0 := (Prod.mk.inj hst).1
      have q5 : s1 69 5 = m0' := (Prod.mk.inj (Prod.mk.inj hst).2).1
      have q6 : s1 69 6 = c0 := (Prod.mk.inj (Prod.mk.inj hst).2).2
      refine cV (sp_note (d := d + 5) (v := r8) (c := c0) (by rw [e69]; exact q6) (by have : c0 ≤ 720 - (k + 1) := hcc; omega)) ?_
      rintro s9 ⟨n1, n2⟩
      rw [e69, q4, q5] at n2
      refine nx (st1 (l0, m0', c0) r8) s9 (f7.tr (n1.mo (by decide) (by decide))) ?_ ?_ n2 ?_ ?_
      · rw [n1.fld 41 9 (by decide), w2.fld 41 9 (by decide)]; exact z3
      · rw [n1.cell 65 (by decide), w2.cell 65 (by decide), z2.cell 65 (by decide), v65]; exact h65
      · have : (st1 (l0, m0', c0) r8).2.2 = c0 + 1 := by cases c0 <;> rfl
        rw [this]
        have : c0 + (k + 1) ≤ 720 := hc
        omega
      · rw [List.map_cons, List.map_nil, List.filter_cons, if_pos hl, List.filter_nil, w1]
        rfl
end WG
