/-! sure -/
def dayQ (C : AS) (f : Int → Int) (dy j a b : Int) : Prop := (0 ≤ a ∧ a ≤ b ∧ b ≤ j) ∧ (∀ x : Int, 0 ≤ x → x < a → C 13 (f x) < dy) ∧ (∀ x : Int, a ≤ x → x < j → dy ≤ C 13 (f x)) ∧ (∀ x : Int, 0 ≤ x → x < b → C 13 (f x) ≤ dy) ∧ ∀ x : Int, b ≤ x → x < j → dy < C 13 (f x)
def ODS (C : AS) (t dy : Int) (f : Int → Int) (R a : Int) (n : Nat) : Prop := rl R f = lst C 3999 t (C 7 11) ∧ 0 ≤ R ∧ dayQ C f dy R a (a + n)
def stO (C : AS) (F : FD) (t p o : Int) (f : Int → Int) (R a : Int) (n : Nat) : Int × Int × Nat := stA (((ordS n (fun j => f (a + j))).filter (lwB C)).map (valO C F t p o (rl a f) (rl (R - a - n) (fun x => f (a + (n + x)))))) (0, 0, 0)
def pickS (w : Int) (st : Int × Int × Nat) : Int := if w = 0 then st.1 else if w = 1 then st.2.1 else st.2.2
def SUR (C : AS) (F : FD) (t dy p o w r : Int) : Prop := ∃ (f : Int → Int) (R a : Int) (n : Nat), ODS C t dy f R a n ∧ r = if n ≤ 6 then pickS w (stO C F t p o f R a n) else -1
theorem rl_inj {R R' : Int} {f f' : Int → Int} (h0 : 0 ≤ R) (h0' : 0 ≤ R') (h : rl R f = rl R' f') : R = R' ∧ ∀ x : Int, 0 ≤ x → x < R → f x = f' x := by
  have hl : R = R' := by
    have := congrArg List.length h
    rw [rl_len, rl_len] at this
    omega
  subst hl
  refine ⟨rfl, fun x x0 x1 => ?_⟩
  have h1 := rl_get f x0 x1
  rw [h, rl_get f' x0 x1] at h1
  exact (Option.some.inj h1).symm
theorem ordS_cg {n : Nat} {s s' : Nat → Int} (h : ∀ k, k < n → s k = s' k) : ordS n s = ordS n s' := by
  unfold ordS
  refine List.map_congr_left (fun u hu => ?_)
  refine List.map_congr_left (fun x hx => h x ?_)
  exact (tups_mem.mp (List.mem_filter.mp hu).1).2 x hx
theorem stO_cg {C : AS} {F : FD} {t p o : Int} {f f' : Int → Int} {R a : Int} {n : Nat} (ha : 0 ≤ a) (haR : a + n ≤ R) (h : ∀ x : Int, 0 ≤ x → x < R → f x = f' x) : stO C F t p o f R a n = stO C F t p o f' R a n := by
  unfold stO
  rw [ordS_cg (s := fun j => f (a + j)) (s' := fun j => f' (a + j)) (fun k hk => h _ (by omega) (by omega)), rl_congr (f := f) (g := f') (n := a) (fun i i0 i1 => h i i0 (by omega)), rl_congr (f := fun x => f (a + (n + x))) (g := fun x => f' (a + (n + x))) (n := R - a - n) (fun i i0 i1 => h _ (by omega) (by omega))]
theorem SUR_uq {C : AS} {F : FD} {t dy p o w r r' : Int} (h : SUR C F t dy p o w r) (h' : SUR C F t dy p o w r') : r = r' := by
  obtain ⟨f, R, a, n, ⟨h1, h2, ⟨h3, h4, h5, h6, h7⟩⟩, h8⟩ := h
  obtain ⟨f', R', a', n', ⟨g1, g2, ⟨g3, g4, g5, g6, g7⟩⟩, g8⟩ := h'
  obtain ⟨rfl, hf⟩ := rl_inj h2 g2 (h1.trans g1.symm)
  have ea : a = a' := by
    rcases Int.lt_trichotomy a a' with z | z | z
    · have := g4 a h3.1 z
      have := h5 a (Int.le_refl a) (by omega)
      rw [hf a h3.1 (by omega)] at this
      omega
    · exact z
    · have := h4 a' g3.1 z
      have := g5 a' (Int.le_refl a') (by omega)
      rw [← hf a' g3.1 (by omega)] at this
      omega
  subst ea
  have en : n = n' := by
    rcases Nat.lt_trichotomy n n' with z | z | z
    · have := g6 (a + n) (by omega) (by omega)
      have := h7 (a + n) (Int.le_refl _) (by omega)
      rw [hf (a + n) (by omega) (by omega)] at this
      omega
    · exact z
    · have := h6 (a + n') (by omega) (by omega)
      have := g7 (a + n') (Int.le_refl _) (by omega)
      rw [← hf (a + n') (by omega) (by omega)] at this
      omega
  subst en
  rw [h8, g8, stO_cg h3.1 h3.2.2 hf]
theorem stA_0 {L : List Int} {l m l' m' : Int} (h : L ≠ []) : stA L (l, m, 0) = stA L (l', m', 0) := by
  cases L with
  | nil => exact absurd rfl h
  | cons x r => rfl
section ON
variable {C : AS} {nn : Nat} {G : Int → GF} {f : Int → Int} {R a t dy : Int} {n : Nat}
theorem ods_in (hI : INV C nn G) (h : rl R f = lst C 3999 t (C 7 11)) {x : Int} (x0 : 0 ≤ x) (x1 : x < R) : 0 ≤ f x ∧ f x < C 7 11 :=
  lst_rng hI.1 (f x) (by rw [← h]; exact rl_mem.mpr ⟨x, x0, x1, rfl⟩)
theorem ods_ahd (hI : INV C nn G) (h : rl R f = lst C 3999 t (C 7 11)) {x y : Int} (x0 : 0 ≤ x) (xy : x < y) (y1 : y < R) : ahd C (f x) (f y) := by
  have h1 := lst_srt (C := C) (d := 3999) (t := t) hI.1.2.2.2.2.2.1
  rw [← h, show R = ((R.toNat : Nat) : Int) by omega] at h1
  exact rl_pw.mp h1 x y x0 xy (by omega)
theorem ods_inj (hI : INV C nn G) (h : rl R f = lst C 3999 t (C 7 11)) {x y : Int} (x0 : 0 ≤ x) (x1 : x < R) (y0 : 0 ≤ y) (y1 : y < R) (e : f x = f y) : x = y := by
  rcases Int.lt_trichotomy x y with z | z | z
  · have := ods_ahd hI h x0 z y1
    rw [e] at this
    exact absurd this ahd_irr
  · exact z
  · have := ods_ahd hI h y0 z x1
    rw [e] at this
    exact absurd this ahd_irr
theorem ods_mo (hI : INV C nn G) (h : rl R f = lst C 3999 t (C 7 11)) {x y : Int} (x0 : 0 ≤ x) (xy : x ≤ y) (y1 : y < R) : C 13 (f x) ≤ C 13 (f y) := by
  by_cases e : x = y
  · rw [e]; exact Int.le_refl _
  · have := ods_ahd hI h x0 (by omega) y1
    unfold ahd at this
    omega
theorem ods_ne (hI : INV C nn G) (h : ODS C t dy f R a n) {V : List Int → Int} : ((ordS n (fun j => f (a + j))).filter (lwB C)).map V ≠ [] := by
  obtain ⟨h1, h2, ⟨h3, h4, h5, h6, h7⟩⟩ := h
  have hm : (List.range n).map (fun j : Nat => f (a + j)) ∈ (ordS n (fun j => f (a + j))).filter (lwB C) := by
    refine List.mem_filter.mpr ⟨List.mem_map.mpr ⟨List.range n, List.mem_filter.mpr ⟨tups_mem.mpr ⟨List.length_range, fun x hx => List.mem_range.mp hx⟩, ndB_iff.mpr List.nodup_range⟩, rfl⟩, ?_⟩
    rw [lwB_iff, List.pairwise_map]
    refine List.Pairwise.imp_of_mem ?_ (List.pairwise_lt_range (n := n))
    intro x y hx hy xy
    have x1 := List.mem_range.mp hx
    have y1 := List.mem_range.mp hy
    have ha := ods_ahd hI h1 (x := a + x) (y := a + y) (by omega) (by omega) (by omega)
    have d1 := h5 (a + x) (by omega) (by omega)
    have d2 := h6 (a + x) (by omega) (by omega)
    have d3 := h5 (a + y) (by omega) (by omega)
    have d4 := h6 (a + y) (by omega) (by omega)
    have r1 := ods_in hI h1 (x := a + y) (by omega) (by omega)
    have th := (hI.2.2.2.2.2.2.2.2 _ r1.1 r1.2).2
    unfold ahd at ha
    unfold LWO
    omega
  intro e
  have := List.map_eq_nil_iff.mp e
  rw [this] at hm
  cases hm
end ON
section CW2
variable {Ln : Int} {d : Nat} {C : AS} {nn : Nat} {G : Int → GF} {p o dy : Int}
/-- the class weighs -/
theorem sp_weigh (hI : INV C nn G) (hp : 0 ≤ p ∧ p < 10) (ho : 0 ≤ o ∧ o < 10) {t : Int} : am_M Ln (d + 7) 23 [vR 69, vI p, vI o, vI dy, vI t] C (am_rI fun r s => Fr cwX cwF C s ∧ ∃ (f : Int → Int) (R a : Int) (n : Nat), ODS C t dy f R a n ∧ ((6 < n ∧ r = 0) ∨ (n ≤ 6 ∧ r = 1 ∧ (s 69 4, s 69 5, s 69 6) = (((stO C (findF C G) t p o f R a n).1, (stO C (findF C G) t p o f R a n).2.1, ((stO C (findF C G) t p o f R a n).2.2 : Int)) : Int × Int × Int)))) := by
  have hL := hI.1.2.2.2.2.1
  refine vm_X4_weigh _ _ _ _ _ (cV (sp_list (dd := d + 4) (C := C) Fr.rf hL (fun k a b => (OKB_lv hI.1 k a b).1)) ?_)
  rintro s1 ⟨l1, l2, l3, l4, l5⟩
  obtain ⟨R, hR⟩ : ∃ R : Nat, s1 40 7 = R := ⟨(s1 40 7).toNat, by omega⟩
  rw [hR] at l4 l5
  have e13 : s1 13 = C 13 := l1.cell 13 (by decide)
  have hin := fun (x : Int) (x0 : 0 ≤ x) (x1 : x < R) => ods_in hI l5 x0 x1
  refine cV (sp_findDay (d := d + 5) (R := R) hR (by omega) (fun x x0 x1 => by have := hin x x0 x1; omega) (fun x y x0 xy y1 => by rw [e13]; exact ods_mo hI l5 x0 xy y1)) ?_
  rintro s2 ⟨f1, f2⟩
  have fr2 : Fr cwX cwF C s2 := (l1.mo (by decide) (by decide)).tr (f1.mo (by decide) (by decide))
  obtain ⟨a, hA⟩ : ∃ a, a = s2 69 2 := ⟨_, rfl⟩
  obtain ⟨b, hB⟩ : ∃ b, b = s2 69 3 := ⟨_, rfl⟩
  rw [← hA, ← hB] at f2 ⊢
  have hab := f2.1
  obtain ⟨n, hn⟩ : ∃ n : Nat, b = a + n := ⟨(b - a).toNat, by omega⟩
  subst hn
  obtain ⟨f, hf⟩ : ∃ f, f = s1 65 := ⟨_, rfl⟩
  have hQ : dayQ C f dy R a (a + n) := by
    unfold dayQ
    unfold dayP at f2
    rw [e13, ← hf] at f2
    exact f2
  rw [← hf] at l5
  have hods : ODS C t dy f R a n := ⟨l5, by omega, hQ⟩
  rw [w32_id (x := a + (n : Int) - a) (by omega) (by omega)]
  refine ⟨fun hn6 => ?_, fun hn6 => ⟨am_b0, fr2, f, R, a, n, hods, Or.inl ⟨by omega, rfl⟩⟩⟩
  refine cV (sp_clear (d := d + 3) _) ?_
  rintro s3 ⟨c1, c2, c3, c4, c5⟩
  have fr3 : Fr cwX cwF C s3 := fr2.tr (c3.mo (by decide) (by decide))
  have hR0 : RX m0 s3 := RX_0 c1 (fun o a b => (c4 o a b).2) c5
  have v2 : s3 69 2 = a := by rw [c3.fld 69 2 (by decide), hA]
  have v65 : s3 65 = f := by rw [c3.cell 65 (by decide), f1.cell 65 (by decide), hf]
  have v66 : ∀ q : Int, 0 ≤ q → q < 10 → s3 66 q = -1 := fun q q0 q1 => by rw [c3.cell 66 (by decide), f1.cell 66 (by decide)]; exact l3 q q0 q1
  have v407 : s3 40 7 = R := by rw [c3.fld 40 7 (by decide), f1.fld 40 7 (by decide), hR]
  have v409 : s3 40 9 = t := by rw [c3.fld 40 9 (by decide), f1.fld 40 9 (by decide), l2]
  rw [v2]
  have hlv : ∀ x : Int, 0 ≤ x → x < R → lv C (f x) := fun x x0 x1 => by
    have := hin x x0 x1
    rw [← hf] at this
    exact (hI.1.2.2.2.2.2.2 _ this.1 this.2).1
  refine cV (sp_play (d := d) (fo := fo0) (n := a) (t := t) (ruX_find hI.2.2.1) hI.1.2.2.2.1 hR0 m0_MI (fr3.mo (by decide) (by decide)) v409 (by omega) (fun q q0 q1 => ⟨v66 q q0 q1, by show (-1 : Int) ≤ -1; omega, by show (-1 : Int) ≤ 4; omega⟩) (by rw [v407]; omega) (by omega) (fun x x0 x1 => by rw [v65]; exact hlv x x0 (by omega)) (by omega)) ?_
  rintro s4 ⟨x1, x2, x3, -⟩
  have hrl : rl (a - 0) (fun x => s3 65 (0 + x)) = rl a f := by
    rw [show a - 0 = a by omega]
    exact rl_congr (fun x a b => by rw [v65, show 0 + x = x by omega])
  rw [hrl] at x1
  have fr4 : Fr cwX cwF C s4 := fr3.tr (x2.mo (by decide) (by decide))
  refine cV (sp_keep (d := d + 4) x1.1.1) ?_
  rintro s5 ⟨k1, k2⟩
  have fr5 : Fr cwX cwF C s5 := fr4.tr (k2.mo (by decide) (by decide))
  have w65 : s5 65 = f := by rw [k2.cell 65 (by decide), x2.cell 65 (by decide), v65]
  have w2 : s5 69 2 = a := by rw [k2.fld 69 2 (by decide), x2.fld 69 2 (by decide), v2]
  have w3 : s5 69 3 = a + n := by rw [k2.fld 69 3 (by decide), x2.fld 69 3 (by decide), c3.fld 69 3 (by decide), hB]
  refine cV (sp_sortBy (d := d + 4) (a := a) (b := a + n) hab.1 (by omega) (by omega) w2 w3 (fun x y q0 q1 q2 q3 e => ods_inj hI l5 (by omega) (by omega) (by omega) (by omega) (by rw [w65] at e; exact e))) ?_
  rintro s6 ⟨g, rfl, hg, hgs⟩
  rw [w65] at hg
  have gR : ∀ x : Int, 0 ≤ x → x < R → ∃ y : Int, (0 ≤ y ∧ y < R) ∧ g x = f y := by
    intro x q0 q1
    by_cases e : a ≤ x ∧ x < a + n
    · obtain ⟨y, hy, e2⟩ := hg.2.1 x e.1 e.2
      exact ⟨y, by omega, e2⟩
    · exact ⟨x, ⟨q0, q1⟩, hg.1 x e⟩
  have hpre : rl a g = rl a f := rl_congr (fun x q0 q1 => hg.1 x (by omega))
  have hpost : rl (R - a - n) (fun x => g (a + (n + x))) = rl (R - a - n) (fun x => f (a + (n + x))) := rl_congr (fun x q0 q1 => hg.1 _ (by omega))
  have fr6 : Fr cwX cwF C (am_up (zc s5 65 g) 69 6 0) := Fr.up (Fr.cl fr5 (by decide)) (Or.inr (by decide))
  have z65 : (am_up (zc s5 65 g) 69 6 0) 65 = g := by rw [am_up_ne (by decide), zc_eq]
  have zF : Fr [65] [(69, 6)] s5 (am_up (zc s5 65 g) 69 6 0) := Fr.up (Fr.cl Fr.rf (by decide)) (Or.inr (by decide))
  have hids : g = pat g a n (fun j => g (a + j)) (List.range n) := by
    funext x
    unfold pat
    by_cases e : a ≤ x ∧ x < a + n
    · rw [if_pos e, List.getD_eq_getElem?_getD, List.getElem?_range (by omega)]
      show g x = g (a + (((x - a).toNat : Nat) : Int))
      congr 1
      omega
    · rw [if_neg e]
  refine am_EI (lp_weigh (d := d) (s0 := am_up (zc s5 65 g) 69 6 0) (a0 := s4) (f := g) (a := a) (R := R) (n := n) (t := t) (p := p) (o := o) hI fr6 (by rw [zF.fld 40 9 (by decide), k2.fld 40 9 (by decide), x2.fld 40 9 (by decide), v409]) (fun q q0 q1 => by rw [zF.cell 66 (by decide), k2.cell 66 (by decide), x2.cell 66 (by decide)]; exact v66 q q0 q1) (by rw [zF.fld 40 7 (by decide), k2.fld 40 7 (by decide), x2.fld 40 7 (by decide), v407]) (by omega) hab.1 (by omega) (by rw [zF.fld 69 2 (by decide), w2]) (by rw [zF.fld 69 3 (by decide), w3]) (by omega) (fun x q0 q1 => by
      obtain ⟨y, hy, e⟩ := gR x q0 q1
      rw [e]
      have := hin y hy.1 hy.2
      rw [← hf] at this
      exact this) (by
      unfold KP at k1 ⊢
      rw [zF.fld 53 3 (by decide), zF.cell 54 (by decide), zF.cell 55 (by decide), zF.cell 56 (by decide), zF.cell 57 (by decide), zF.cell 58 (by decide), zF.cell 59 (by decide)]
      exact k1) (by rw [hpre]; exact x1) (fun x y xy y1 => hgs _ _ (by omega) (by omega) (by omega)) hp ho 720 (List.range n) ((am_up (zc s5 65 g) 69 6 0) 69 4, (am_up (zc s5 65 g) 69 6 0) 69 5, 0) 1 _ Fr.rf (by rw [zF.fld 41 9 (by decide), k2.fld 41 9 (by decide)]; exact x3) (by rw [z65]; exact hids) (by rw [show (am_up (zc s5 65 g) 69 6 0) 69 6 = 0 by rw [am_up_eq, if_pos rfl]]; rfl) (Nat.le_refl 720) (Nat.le_refl _) (fun _ u hu => by rw [seqG_all (by omega)] at hu; exact (List.mem_filter.mp hu).1)) ?_
  rintro r s' ⟨y1, y2, st', y3, -, y4⟩
  refine ⟨fr6.tr (y2.mo (by decide) (by decide)), f, R, a, n, hods, Or.inr ⟨by omega, y1, ?_⟩⟩
  have hst : st' = stO C (findF C G) t p o f R a n := by
    rw [y4 (by decide), seqG_all (by omega), hpre, hpost]
    have hperm : (ordS n (fun j => g (a + j))).Perm (ordS n (fun j => f (a + j))) := by
      refine ordS_perm (fun x y q0 q1 e => ?_) (fun x y q0 q1 e => ?_) (fun x q0 => ?_) (fun x q0 => ?_)
      · have := hg.2.2.2 (a + x) (a + y) (by omega) (by omega) (by omega) (by omega) e
        omega
      · have := ods_inj hI l5 (x := a + x) (y := a + y) (by omega) (by omega) (by omega) (by omega) e
        omega
      · obtain ⟨y, hy, e⟩ := hg.2.1 (a + x) (by omega) (by omega)
        exact ⟨(y - a).toNat, by omega, by show f (a + (((y - a).toNat : Nat) : Int)) = g (a + x); rw [show a + (((y - a).toNat : Nat) : Int) = y by omega]; exact e.symm⟩
      · obtain ⟨y, hy, e⟩ := hg.2.2.1 (a + x) (by omega) (by omega)
        exact ⟨(y - a).toNat, by omega, by show g (a + (((y - a).toNat : Nat) : Int)) = f (a + x); rw [show a + (((y - a).toNat : Nat) : Int) = y by omega]; exact e⟩
    have h2 := stA_perm ((hperm.filter (lwB C)).map (valO C (findF C G) t p o (rl a f) (rl (R - a - n) (fun x => f (a + (n + x)))))) ((am_up (zc s5 65 g) 69 6 0) 69 4, (am_up (zc s5 65 g) 69 6 0) 69 5, 0)
    unfold ordS at h2
    unfold stO
    rw [h2]
    exact stA_0 (ods_ne hI hods)
  rw [← hst]
  exact y3
end CW2
