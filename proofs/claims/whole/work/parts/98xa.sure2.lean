/-! sure, the model; the pair -/
section SM2
variable {Ln : Int} {d : Nat} {C b : AS} {nn n : Nat} {G : Int → GF} {f : Int → Int} {a R t p o w : Int}
def suX : List Nat := 127 :: 128 :: pmX
def suF : List (Nat × Int) := (82, 65) :: (82, 66) :: (82, 67) :: pmF
theorem lp_sure181 (hI : INV C nn G) (hb : Fr wkX wkF C b) (h121 : ∀ q : Int, 0 ≤ q → q < 10 → b 121 q = -1) (hR : R ≤ 100) (ha : 0 ≤ a) (haR : a + n ≤ R) (hn6 : n ≤ 6) (h82 : b 82 2 = t)
    (hf : ∀ x : Int, 0 ≤ x → x < R → 0 ≤ f x ∧ f x < C 7 11) (hp : 0 ≤ p ∧ p < 10) (hw : 0 ≤ w ∧ w ≤ 2) {V : List Int → Int} (hV : V = valO C (findF C G) t p o (rl a f) (rl (R - a - n) (fun x => f (a + (n + x))))) :
    ∀ (r : List (List Nat)) (tt : List Nat) (st : Int × Int × Nat) (σ : AS), lnk (tnx n n) (tt :: r) none → (∀ u ∈ tt :: r, u ∈ tups n n) → st.2.2 + (tt :: r).length ≤ 50000 → Fr suX suF b σ → σ 82 63 = R → (∀ x : Int, 0 ≤ x → x < R → σ 126 x = f x) → (∀ x : Nat, x < n → σ 127 x = f (a + x)) → tuX σ n tt → (σ 82 66, σ 82 67, σ 82 65) = ((st.1, st.2.1, (st.2.2 : Int)) : Int × Int × Int) →
    am_E Ln (d + 9) 220 181 [vR 82, vI p, vI o, vU, vI w, vI a, vI (n : Int), vI 1] [] σ (am_rI fun v s' => Fr suX suF b s' ∧ v = pickS w (stA (((tt :: r).filter (fun u => ndB u && lwB C (u.map (fun j : Nat => f (a + j))))).map (fun u => V (u.map (fun j : Nat => f (a + j))))) st)) := by
  intro r
  induction r with
  | nil =>
    intro tt st σ hl hm hc hfr e63 e126 e127 hT hst
    obtain ⟨ht1, ht2⟩ := tups_mem.mp (hm tt List.mem_cons_self)
    have fC : Fr wkX wkF C σ := hb.tr (hfr.mo (by decide) (by decide))
    have hB := hI.1.1
    -- the answer
    have fin : ∀ (st' : Int × Int × Nat) (σ1 : AS), Fr suX suF b σ1 → (σ1 82 66, σ1 82 67, σ1 82 65) = ((st'.1, st'.2.1, (st'.2.2 : Int)) : Int × Int × Int) → tuX σ1 n tt → (st' = stA (([tt].filter (fun u => ndB u && lwB C (u.map (fun j : Nat => f (a + j))))).map (fun u => V (u.map (fun j : Nat => f (a + j))))) st) →
        ∃ T : Option AV → AS → Prop, am_M Ln (d + 9) 219 [vR 82, vI (n : Int)] σ1 T ∧ ∀ (r4 : Int) s3, T (some (vI r4)) s3 → am_E Ln (d + 9) 220 181 [vR 82, vI p, vI o, vU, vI w, vI a, vI (n : Int), vI r4] [] s3 (am_rI fun v s' => Fr suX suF b s' ∧ v = pickS w (stA (([tt].filter (fun u => ndB u && lwB C (u.map (fun j : Nat => f (a + j))))).map (fun u => V (u.map (fun j : Nat => f (a + j))))) st)) := by
      intro st' σ1 g1 g2 g3 g4
      refine cI (sp_turns (d := d + 8) hn6 ht1 g3 ht2) ?_
      rintro r4 s3 ⟨y1, y2, y3⟩
      have hn1 : tnx n n tt = none := hl.1
      have g5 : Fr suX suF b s3 := g1.tr (y1.mo (by decide) (by decide))
      rw [← y1.cell 82 (by decide)] at g2
      obtain ⟨q6, q7⟩ := Prod.mk.inj g2
      obtain ⟨q7, q5⟩ := Prod.mk.inj q7
      rw [← g4]
      refine vl_X12_sure_181 _ _ _ _ _ _ _ ⟨fun _ => ⟨fun e => ?_, fun e => ⟨fun e2 => ?_, fun e2 => ?_⟩⟩, fun z => absurd (y2 hn1) z⟩
      · exact ⟨g5, by unfold pickS; rw [if_pos e, q6]⟩
      · exact ⟨g5, by unfold pickS; rw [if_neg e, if_pos e2, q7]⟩
      · exact ⟨g5, by unfold pickS; rw [if_neg e, if_neg e2, q5]⟩
    refine vl_X12_sure_181 _ _ _ _ _ _ _ ⟨fun z => absurd z (by decide), fun _ => cI (sp_mayBe (C := C) (d := d + 8) hn6 hT ht1 ht2 (fun x hx => ⟨e127 x hx, by have := hf (a + x) (by omega) (by omega); have := hI.1.2.2.2.2.1; omega⟩) (by rw [fC.cell 91 (by decide)]; exact hB.1.2.2.2.2.2.2.2.1) (by rw [fC.cell 92 (by decide)]; exact hB.1.2.2.2.2.2.2.2.2.1)) ?_⟩
    rintro r2 s1 ⟨rfl, hv⟩
    refine ⟨fun z => fin st s1 hfr hst hT ?_, fun z => ?_⟩
    · rw [List.filter_cons, if_neg (fun q => (hv.mpr q) z)]; rfl
    · refine cV (sp_playsOrder (d := d) (σ0 := s1) (t := t) (R := R) hI fC (fun q q0 q1 => by rw [hfr.cell 121 (by decide)]; exact h121 q q0 q1) e63 hR ha haR hn6 e126 (by rw [hfr.fld 82 2 (by decide)]; exact h82) hf hT ht1 ht2 e127 hp hst (by rw [List.length_cons] at hc; omega)) ?_
      rintro s5 ⟨x1, x2⟩
      rw [← hV] at x2
      refine fin _ s5 (hfr.tr (x1.mo (by decide) (by decide))) x2 (fun x hx => by rw [x1.cell 128 (by decide)]; exact hT x hx) ?_
      rw [List.filter_cons, if_pos (hv.mp z)]
      rfl
  | cons y r ih =>
    intro tt st σ hl hm hc hfr e63 e126 e127 hT hst
    obtain ⟨ht1, ht2⟩ := tups_mem.mp (hm tt List.mem_cons_self)
    have fC : Fr wkX wkF C σ := hb.tr (hfr.mo (by decide) (by decide))
    have hB := hI.1.1
    rw [List.length_cons] at hc
    have fin : ∀ (st' : Int × Int × Nat) (σ1 : AS), Fr suX suF b σ1 → (σ1 82 66, σ1 82 67, σ1 82 65) = ((st'.1, st'.2.1, (st'.2.2 : Int)) : Int × Int × Int) → tuX σ1 n tt → σ1 82 63 = R → σ1 126 = σ 126 → σ1 127 = σ 127 → st'.2.2 ≤ st.2.2 + 1 → (st' = stA (([tt].filter (fun u => ndB u && lwB C (u.map (fun j : Nat => f (a + j))))).map (fun u => V (u.map (fun j : Nat => f (a + j))))) st) →
        ∃ T : Option AV → AS → Prop, am_M Ln (d + 9) 219 [vR 82, vI (n : Int)] σ1 T ∧ ∀ (r4 : Int) s3, T (some (vI r4)) s3 → am_E Ln (d + 9) 220 181 [vR 82, vI p, vI o, vU, vI w, vI a, vI (n : Int), vI r4] [] s3 (am_rI fun v s' => Fr suX suF b s' ∧ v = pickS w (stA (((tt :: y :: r).filter (fun u => ndB u && lwB C (u.map (fun j : Nat => f (a + j))))).map (fun u => V (u.map (fun j : Nat => f (a + j))))) st)) := by
      intro st' σ1 g1 g2 g3 k63 k126 k127 kc g4
      refine cI (sp_turns (d := d + 8) hn6 ht1 g3 ht2) ?_
      rintro r4 s3 ⟨y1, y2, y3⟩
      have hn1 : tnx n n tt = some y := hl.1
      obtain ⟨rfl, hT3⟩ := y3 y hn1
      rw [← y1.cell 82 (by decide)] at g2
      refine am_EI (ih y st' s3 hl.2 (fun u hu => hm u (List.mem_cons_of_mem _ hu)) (by omega) (g1.tr (y1.mo (by decide) (by decide))) (by rw [y1.fld 82 63 (by decide)]; exact k63) (by rw [y1.cell 126 (by decide), k126]; exact e126) (by rw [y1.cell 127 (by decide), k127]; exact e127) hT3 g2) ?_
      rintro v s' ⟨w1, w2⟩
      refine ⟨w1, ?_⟩
      rw [w2, g4, show tt :: y :: r = [tt] ++ (y :: r) from rfl, List.filter_append, List.map_append]
      unfold stA
      rw [List.foldl_append]
    refine vl_X12_sure_181 _ _ _ _ _ _ _ ⟨fun z => absurd z (by decide), fun _ => cI (sp_mayBe (C := C) (d := d + 8) hn6 hT ht1 ht2 (fun x hx => ⟨e127 x hx, by have := hf (a + x) (by omega) (by omega); have := hI.1.2.2.2.2.1; omega⟩) (by rw [fC.cell 91 (by decide)]; exact hB.1.2.2.2.2.2.2.2.1) (by rw [fC.cell 92 (by decide)]; exact hB.1.2.2.2.2.2.2.2.2.1)) ?_⟩
    rintro r2 s1 ⟨rfl, hv⟩
    refine ⟨fun z => fin st s1 hfr hst hT e63 rfl rfl (by omega) ?_, fun z => ?_⟩
    · rw [List.filter_cons, if_neg (fun q => (hv.mpr q) z)]; rfl
    · refine cV (sp_playsOrder (d := d) (σ0 := s1) (t := t) (R := R) hI fC (fun q q0 q1 => by rw [hfr.cell 121 (by decide)]; exact h121 q q0 q1) e63 hR ha haR hn6 e126 (by rw [hfr.fld 82 2 (by decide)]; exact h82) hf hT ht1 ht2 e127 hp hst (by omega)) ?_
      rintro s5 ⟨x1, x2⟩
      rw [← hV] at x2
      refine fin _ s5 (hfr.tr (x1.mo (by decide) (by decide))) x2 (fun x hx => by rw [x1.cell 128 (by decide)]; exact hT x hx) (by rw [x1.fld 82 63 (by decide)]; exact e63) (x1.cell 126 (by decide)) (x1.cell 127 (by decide)) ?_ ?_
      · obtain ⟨l0, mm, c0⟩ := st
        cases c0 with
        | zero => exact Nat.le_refl 1
        | succ c => exact Nat.le_refl _
      · rw [List.filter_cons, if_pos (hv.mp z)]
        rfl
theorem tups_length (n : Nat) : ∀ k : Nat, (tups n k).length = n ^ k
  | 0 => rfl
  | k + 1 => by
    have ih := tups_length n k
    have key : ∀ L : List Nat, (L.flatMap (fun a => (tups n k).map (fun t => a :: t))).length = L.length * n ^ k := by
      intro L
      induction L with
      | nil => exact (Nat.zero_mul _).symm
      | cons x L ih2 => rw [List.flatMap_cons, List.length_append, ih2, List.length_map, ih, List.length_cons, Nat.succ_mul, Nat.add_comm]
    rw [tups, key, List.length_range, Nat.pow_succ, Nat.mul_comm]
theorem lp_sure135 (hI : INV C nn G) (hb : Fr wkX wkF C b) (h121 : ∀ q : Int, 0 ≤ q → q < 10 → b 121 q = -1) (hR : R ≤ 100) (ha : 0 ≤ a) (haR : a + n ≤ R) (hn6 : n ≤ 6) (h82 : b 82 2 = t)
    (hf : ∀ x : Int, 0 ≤ x → x < R → 0 ≤ f x ∧ f x < C 7 11) (hp : 0 ≤ p ∧ p < 10) (hw : 0 ≤ w ∧ w ≤ 2) :
    ∀ (m j : Nat) (σ : AS), j + m = n → Fr suX suF b σ → σ 82 63 = R → (∀ x : Int, 0 ≤ x → x < R → σ 126 x = f x) → (∀ x : Nat, x < j → σ 127 x = f (a + x) ∧ σ 128 x = 0) →
    am_E Ln (d + 9) 220 135 [vR 82, vI p, vI o, vU, vI w, vI a, vI (n : Int), vI (j : Int)] [] σ (am_rI fun v s' => Fr suX suF b s' ∧ ∃ l mm : Int, v = pickS w (stA (((tups n n).filter (fun u => ndB u && lwB C (u.map (fun j : Nat => f (a + j))))).map (fun u => valO C (findF C G) t p o (rl a f) (rl (R - a - n) (fun x => f (a + (n + x)))) (u.map (fun j : Nat => f (a + j))))) (l, mm, 0))) := by
  intro m
  induction m with
  | zero =>
    intro j σ hj hfr e63 e126 h12
    obtain rfl : j = n := by omega
    refine vl_X12_sure_135 _ _ _ _ _ _ _ ⟨fun _ => ?_, fun z => absurd (by omega) z⟩
    obtain ⟨k1, k2⟩ := tups_lnk (n := j) j (by omega)
    obtain ⟨r, hr⟩ : ∃ r, tups j j = List.replicate j 0 :: r := by
      cases hh : tups j j with
      | nil => rw [hh] at k2; cases k2
      | cons x r => rw [hh] at k2; cases k2; exact ⟨r, rfl⟩
    have hlen : (tups j j).length ≤ 46656 := by
      rw [tups_length]
      have : ∀ k : Fin 7, k.val ^ k.val ≤ 46656 := by decide
      exact this ⟨j, by omega⟩
    rw [hr] at k1 hlen
    have zF : Fr [] [(82, 65)] σ (am_up σ 82 65 0) := Fr.up Fr.rf (Or.inr (by decide))
    refine am_EI (lp_sure181 (d := d) (C := C) (p := p) (o := o) (w := w) hI hb h121 hR ha haR hn6 h82 hf hp hw rfl r (List.replicate j 0) ((am_up σ 82 65 0) 82 66, (am_up σ 82 65 0) 82 67, 0) _ k1 (fun u hu => by rw [hr]; exact hu) (by show 0 + _ ≤ 50000; omega) (hfr.tr (zF.mo (by decide) (by decide))) (by rw [zF.fld 82 63 (by decide)]; exact e63) (by rw [zF.cell 126 (by decide)]; exact e126) (fun x hx => by rw [zF.cell 127 (by decide)]; exact (h12 x hx).1) (fun x hx => by
      rw [zF.cell 128 (by decide), (h12 x hx).2, List.getD_eq_getElem?_getD, List.getElem?_replicate, if_pos hx]; rfl) (by rw [show (am_up σ 82 65 0) 82 65 = 0 by rw [am_up_eq, if_pos rfl]]; rfl)) ?_
    rintro v s' ⟨w1, w2⟩
    rw [← hr] at w2
    exact ⟨w1, _, _, w2⟩
  | succ m ih =>
    intro j σ hj hfr e63 e126 h12
    refine vl_X12_sure_135 _ _ _ _ _ _ _ ⟨fun z => absurd z (by omega), fun _ => ?_⟩
    rw [w32_id (x := a + (j : Int)) (by omega) (by omega), w32_id (x := (j : Int) + 1) (by omega) (by omega)]
    have zF : Fr [127, 128] [] σ (am_up (am_up σ 127 (j : Int) (σ 126 (a + j))) 128 (j : Int) 0) := Fr.up (Fr.up Fr.rf (Or.inl (by decide))) (Or.inl (by decide))
    refine ⟨by omega, by omega, by omega, ih (j + 1) _ (by omega) (hfr.tr (zF.mo (by decide) (by decide))) (by rw [zF.fld 82 63 (by decide)]; exact e63) (by rw [zF.cell 126 (by decide)]; exact e126) (fun x hx => ?_)⟩
    rw [am_up_ne (by decide : 127 ≠ 128), am_up_eq, am_up_eq, am_up_ne (by decide : 128 ≠ 127)]
    by_cases e : x = j
    · rw [if_pos (by omega), if_pos (by omega), e126 _ (by omega) (by omega), e]
      exact ⟨rfl, rfl⟩
    · rw [if_neg (by omega), if_neg (by omega)]
      exact h12 x (by omega)
theorem stO_eq {F : FD} : stO C F t p o f R a n = stA (((tups n n).filter (fun u => ndB u && lwB C (u.map (fun j : Nat => f (a + j))))).map (fun u => valO C F t p o (rl a f) (rl (R - a - n) (fun x => f (a + (n + x)))) (u.map (fun j : Nat => f (a + j))))) (0, 0, 0) := by
  unfold stO ordS
  rw [List.filter_map, List.filter_filter, List.map_map]
  congr 2
  refine List.filter_congr (fun u _ => ?_)
  exact Bool.and_comm _ _
end SM2
section SM3
variable {Ln : Int} {d : Nat} {C b : AS} {nn : Nat} {G : Int → GF} {f : Int → Int} {R t p o w dy : Int}
def suP (b C : AS) (F : FD) (t dy p o w : Int) (v : Int) (s' : AS) : Prop := Fr suX suF b s' ∧ SUR C F t dy p o w v
theorem lp_sure86 (hI : INV C nn G) (hb : Fr wkX wkF C b) (h121 : ∀ q : Int, 0 ≤ q → q < 10 → b 121 q = -1) (hR : R ≤ 100) (h82 : b 82 2 = t) (hls : rl R f = lst C 3999 t (C 7 11)) (hp : 0 ≤ p ∧ p < 10) (hw : 0 ≤ w ∧ w ≤ 2) {a : Int} (ha : 0 ≤ a) (h1 : ∀ x : Int, 0 ≤ x → x < a → C 13 (f x) < dy) (h2 : a < R → dy ≤ C 13 (f a)) {σ : AS} (hfr : Fr suX suF b σ) (e63 : σ 82 63 = R) (e126 : ∀ x : Int, 0 ≤ x → x < R → σ 126 x = f x) :
    ∀ (m n : Nat), a + n + m = R → (∀ x : Int, a ≤ x → x < a + n → C 13 (f x) = dy) → am_E Ln (d + 9) 220 86 [vR 82, vI p, vI o, vI dy, vI w, vI a, vI (n : Int), vU] [] σ (am_rI (suP b C (findF C G) t dy p o w)) := by
  have hin := fun (x : Int) (x0 : 0 ≤ x) (x1 : x < R) => ods_in hI hls x0 x1
  have hL := hI.1.2.2.2.2.1
  have hB := hI.1.1
  have e90 : σ 90 = C 13 := by rw [(hb.tr (hfr.mo (by decide) (by decide) : Fr wkX wkF b σ)).cell 90 (by decide)]; exact hB.1.2.2.2.2.2.2.1
  -- the day's lines are a .. a + n - 1
  have fin : ∀ n : Nat, a + n ≤ R → (∀ x : Int, a ≤ x → x < a + n → C 13 (f x) = dy) → (a + n = R ∨ C 13 (f (a + n)) ≠ dy) → ((n : Int) ≤ 6 → am_E Ln (d + 9) 220 135 [vR 82, vI p, vI o, vU, vI w, vI a, vI (n : Int), vI 0] [] σ (am_rI (suP b C (findF C G) t dy p o w))) ∧ (¬ ((n : Int) ≤ 6) → suP b C (findF C G) t dy p o w (-1) σ) := by
    intro n hnR hall hend
    have hods : ODS C t dy f R a n := by
      refine ⟨hls, by omega, ⟨by omega, h1, fun x x0 x1 => ?_, fun x x0 x1 => ?_, fun x x0 x1 => ?_⟩⟩
      · have := ods_mo hI hls ha x0 x1
        have := h2 (by omega)
        omega
      · by_cases e : x < a
        · have := h1 x x0 e; omega
        · rw [hall x (by omega) x1]; exact Int.le_refl _
      · have m1 := ods_mo hI hls (x := a + n) (by omega) x0 x1
        have m2 := ods_mo hI hls (x := a) (y := a + n) ha (by omega) (by omega)
        have := h2 (by omega)
        rcases hend with z | z <;> omega
    refine ⟨fun hn6 => ?_, fun hn6 => ⟨hfr, f, R, a, n, hods, by rw [if_neg (by omega)]⟩⟩
    refine am_EI (lp_sure135 (d := d) (p := p) (o := o) (w := w) hI hb h121 hR ha hnR (by omega) h82 hin hp hw n 0 σ (by omega) hfr e63 e126 (fun x hx => absurd hx (by omega))) ?_
    rintro v s' ⟨w1, l, mm, w2⟩
    refine ⟨w1, f, R, a, n, hods, ?_⟩
    rw [if_pos (by omega), w2, stO_eq]
    congr 1
    refine stA_0 ?_
    have := ods_ne hI hods (V := valO C (findF C G) t p o (rl a f) (rl (R - a - n) (fun x => f (a + (n + x)))))
    unfold ordS at this
    rw [List.filter_map, List.filter_filter, List.map_map] at this
    intro e
    refine this ?_
    rw [← e]
    congr 1
    refine List.filter_congr (fun u _ => ?_)
    exact Bool.and_comm _ _
  intro m
  induction m with
  | zero =>
    intro n hn hall
    have := fin n (by omega) hall (Or.inl (by omega))
    refine vl_X12_sure_86 _ _ _ _ _ _ _ ⟨fun _ => this, fun z => absurd ?_ z⟩
    rw [e63, w32_id (by omega) (by omega)]; omega
  | succ m ih =>
    intro n hn hall
    refine vl_X12_sure_86 _ _ _ _ _ _ _ ⟨fun z => absurd z ?_, fun _ => ?_⟩
    · rw [e63, w32_id (by omega) (by omega)]; omega
    · rw [w32_id (x := a + (n : Int)) (by omega) (by omega), e126 _ (by omega) (by omega), e90, w32_id (x := (n : Int) + 1) (by omega) (by omega)]
      have := hin (a + n) (by omega) (by omega)
      refine ⟨by omega, by omega, fun e => ?_, fun e => fin n (by omega) hall (Or.inr e)⟩
      refine ih (n + 1) (by omega) (fun x x0 x1 => ?_)
      by_cases z : x = a + n
      · rw [z]; exact e
      · exact hall x x0 (by omega)
theorem lp_sure52 (hI : INV C nn G) (hb : Fr wkX wkF C b) (h121 : ∀ q : Int, 0 ≤ q → q < 10 → b 121 q = -1) (hR : R ≤ 100) (h82 : b 82 2 = t) (hls : rl R f = lst C 3999 t (C 7 11)) (hp : 0 ≤ p ∧ p < 10) (hw : 0 ≤ w ∧ w ≤ 2) {σ : AS} (hfr : Fr suX suF b σ) (e63 : σ 82 63 = R) (e126 : ∀ x : Int, 0 ≤ x → x < R → σ 126 x = f x) :
    ∀ (m : Nat) (a : Int), a + m = R → 0 ≤ a → (∀ x : Int, 0 ≤ x → x < a → C 13 (f x) < dy) → am_E Ln (d + 9) 220 52 [vR 82, vI p, vI o, vI dy, vI w, vI a, vU, vU] [] σ (am_rI (suP b C (findF C G) t dy p o w)) := by
  have hin := fun (x : Int) (x0 : 0 ≤ x) (x1 : x < R) => ods_in hI hls x0 x1
  have hL := hI.1.2.2.2.2.1
  have hB := hI.1.1
  have e90 : σ 90 = C 13 := by rw [(hb.tr (hfr.mo (by decide) (by decide) : Fr wkX wkF b σ)).cell 90 (by decide)]; exact hB.1.2.2.2.2.2.2.1
  intro m
  induction m with
  | zero =>
    intro a hm ha hall
    refine vl_X12_sure_52 _ _ _ _ _ _ ⟨fun _ => lp_sure86 (d := d) hI hb h121 hR h82 hls hp hw ha hall (fun z => absurd z (by omega)) hfr e63 e126 0 0 (by omega) (fun x x0 x1 => absurd x1 (by omega)), fun z => absurd ?_ z⟩
    rw [e63]; omega
  | succ m ih =>
    intro a hm ha hall
    refine vl_X12_sure_52 _ _ _ _ _ _ ⟨fun z => absurd z ?_, fun _ => ?_⟩
    · rw [e63]; omega
    · rw [e126 a ha (by omega), e90, w32_id (x := a + 1) (by omega) (by omega)]
      have := hin a ha (by omega)
      refine ⟨by omega, by omega, fun e => ?_, fun e => ih (a + 1) (by omega) (by omega) (fun x x0 x1 => ?_)⟩
      · exact lp_sure86 (d := d) hI hb h121 hR h82 hls hp hw ha hall (fun _ => e) hfr e63 e126 (m + 1) 0 (by omega) (fun x x0 x1 => absurd x1 (by omega))
      · by_cases z : x = a
        · rw [z]; omega
        · exact hall x x0 (by omega)
/-- two questions with the same answer, by a property that but one answer has -/
theorem pr_ansP {mx mm : Nat} {ax am : List AV} {σ : AS} {n : Nat} {P : Int → Prop} (hu : ∀ r r', P r → P r' → r = r') {cs cs' : List Nat} {fs fs' : List (Nat × Int)} (hI : INV σ n G) (h1 : am_M Ln 1000 mx ax σ (am_rI fun r s => P r ∧ Fr cs fs σ s)) (h2 : ∀ s, Fr cs fs σ s → am_M Ln 1000 mm am s (am_rI fun r s' => P r ∧ Fr cs' fs' s s')) (hd : dsj cs fs IVC IVF = true) (hd' : dsj cs' fs' IVC IVF = true) : PR Ln mx ax mm am σ := by
  refine am_MI h1 ?_
  rintro r s ⟨a1, a3⟩
  refine ⟨(dsj_c hd a3).1 0 (by decide), am_MI (h2 s a3) ?_⟩
  rintro r' s' ⟨b1, b3⟩
  exact ⟨hu r' r b1 a1, ((dsj_c hd' b3).1 0 (by decide)).trans ((dsj_c hd a3).1 0 (by decide)), n, G, INV_fr (INV_fr hI a3 hd) b3 hd'⟩
theorem pr_sure (hI : INV C nn G) (p o dy w : Int) : PR Ln 110 [vR 1, vI p, vI o, vI dy, vI w] 220 [vR 82, vI p, vI o, vI dy, vI w] C := by
  have hn := INV_n hI
  have hn1 := hI.1.2.1
  have hn2 := hI.1.2.2.1
  have hP := hI.2.2.2.1.2.1
  obtain ⟨c, hc⟩ : ∃ c : Prop, c = ((0 ≤ p ∧ p < C 4 2) ∧ (0 ≤ o ∧ o < C 1 11) ∧ (0 ≤ dy ∧ dy ≤ 3999) ∧ (0 ≤ w ∧ w ≤ 2)) := ⟨_, rfl⟩
  have no : ∀ s : AS, ¬ c → ∀ (cs : List Nat) (fs : List (Nat × Int)) (s' : AS), Fr cs fs s s' → (fun r => (c ∧ SUR C (findF C G) (C 1 10) dy p o w r) ∨ (¬ c ∧ r = -1)) (-1) ∧ Fr cs fs s s' := fun s h cs fs s' hs => ⟨Or.inr ⟨h, rfl⟩, hs⟩
  refine pr_ansP (P := fun r => (c ∧ SUR C (findF C G) (C 1 10) dy p o w r) ∨ (¬ c ∧ r = -1)) (fun r r' h h' => ?_) (cs := cwX) (fs := cwF) (cs' := suX) (fs' := suF) hI ?_ (fun s hs => ?_) (by decide) (by decide)
  · rcases h with ⟨h1, h2⟩ | ⟨h1, h2⟩
    · rcases h' with ⟨g1, g2⟩ | ⟨g1, g2⟩
      · exact SUR_uq h2 g2
      · exact absurd h1 g1
    · rcases h' with ⟨g1, g2⟩ | ⟨g1, g2⟩
      · exact absurd g1 h1
      · rw [h2, g2]
  · refine vm_X11_sure _ _ _ _ _ (cG sp_cPurse (fun h => no C (fun q => by rw [hc] at q; exact h q.1) _ _ _ Fr.rf) (fun g1 => cG sp_cPerson (fun h => no C (fun q => by rw [hc] at q; exact h q.2.1) _ _ _ Fr.rf) (fun g2 => cG sp_cDay (fun h => no C (fun q => by rw [hc] at q; exact h q.2.2.1) _ _ _ Fr.rf) (fun g3 => ⟨fun h => no C (fun q => by rw [hc] at q; omega) _ _ _ Fr.rf, fun g4 => ⟨fun g5 => cI (sp_weigh (d := 992) (dy := dy) hI ⟨g1.1, by omega⟩ ⟨g2.1, by omega⟩) ?_, fun h => no C (fun q => by rw [hc] at q; omega) _ _ _ Fr.rf⟩⟩))))
    rintro r8 s7 ⟨x1, f, R, a, n, x2, x3⟩
    have hcc : c := by rw [hc]; exact ⟨g1, g2, g3, by omega, g5⟩
    refine ⟨fun z => ⟨Or.inl ⟨hcc, f, R, a, n, x2, ?_⟩, x1⟩, fun z => ?_⟩
    · rcases x3 with ⟨y1, -⟩ | ⟨-, y1, -⟩
      · rw [if_neg (by omega)]
      · omega
    · rcases x3 with ⟨-, y1⟩ | ⟨y0, y1, y2⟩
      · exact absurd y1 z
      · obtain ⟨q6, q7⟩ := Prod.mk.inj y2
        obtain ⟨q7, q5⟩ := Prod.mk.inj q7
        refine ⟨fun e => ⟨Or.inl ⟨hcc, f, R, a, n, x2, ?_⟩, x1⟩, fun e => ⟨fun e2 => ⟨Or.inl ⟨hcc, f, R, a, n, x2, ?_⟩, x1⟩, fun e2 => ⟨Or.inl ⟨hcc, f, R, a, n, x2, ?_⟩, x1⟩⟩⟩
        · rw [if_pos y0, q6]; unfold pickS; rw [if_pos e]
        · rw [if_pos y0, q7]; unfold pickS; rw [if_neg e, if_pos e2]
        · rw [if_pos y0, q5]; unfold pickS; rw [if_neg e, if_neg e2]
  · have hf : Fr wkX wkF C s := hs.mo (by decide) (by decide)
    have hB := hI.1.1
    have hIs : INV s nn G := INV_fr hI hs (by decide)
    refine vm_X12_sure _ _ _ _ _ (cG (sp_mPurse hB hf (by omega)) (fun h => no s (fun q => by rw [hc] at q; exact h q.1) _ _ _ Fr.rf) (fun g1 => cG (sp_mPerson hB hf hn) (fun h => no s (fun q => by rw [hc] at q; exact h q.2.1) _ _ _ Fr.rf) (fun g2 => cG sp_mDay (fun h => no s (fun q => by rw [hc] at q; exact h q.2.2.1) _ _ _ Fr.rf) (fun g3 => cI sp_mlies ?_))))
    rintro r8 s7 ⟨x1, rfl⟩
    refine ⟨fun z => no s7 (fun q => by rw [hc] at q; rw [if_pos q.2.2.2] at x1; omega) _ _ _ Fr.rf, fun z => ?_⟩
    have g4 : 0 ≤ w ∧ w ≤ 2 := by
      by_cases q : 0 ≤ w ∧ w ≤ 2
      · exact q
      · rw [if_neg q] at x1; exact absurd x1 z
    have hcc : c := by rw [hc]; exact ⟨g1, g2, g3, g4⟩
    have e2 : s7 82 2 = C 1 10 := by rw [hf.fld 82 2 (by decide)]; exact hB.2.2.2.1
    refine cV (sp_mlists (dd := 4000) (t := s7 82 2) hI.1 hf) ?_
    rintro s9 ⟨a1, a2, a3⟩
    rw [e2, lst_day hI.1 hI.2.1] at a3
    have e9 : Fr suX suF s7 s9 := a1.mo (by decide) (by decide)
    refine am_EI (lp_sure52 (d := 990) (b := s7) (C := C) (f := s9 126) (R := s9 82 63) (t := C 1 10) (p := p) (o := o) (w := w) (dy := dy) hI hf (by rw [hs.cell 121 (by decide)]; exact hI.2.2.2.1.2.2.2.2.2.2) a2.2 e2 a3 ⟨g1.1, by omega⟩ g4 e9 rfl (fun _ _ _ => rfl) (s9 82 63).toNat 0 (by omega) (by omega) (fun x x0 x1 => absurd x1 (by omega))) ?_
    rintro v s' ⟨y1, y2⟩
    exact ⟨Or.inl ⟨hcc, y2⟩, y1⟩
end SM3
