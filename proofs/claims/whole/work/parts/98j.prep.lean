/-! the class prepares -/
theorem cn0_ex {w : Int → Int} : ∀ (n : Nat) (j : Int), 0 ≤ j → j < cn0 w n → ∃ q : Nat, q < n ∧ w q ≠ 0 ∧ cn0 w q = j
  | 0, j, a, b => by rw [cn0] at b; omega
  | n + 1, j, a, b => by
    rw [cn0] at b
    by_cases e : j < cn0 w n
    · obtain ⟨q, q1, q2, q3⟩ := cn0_ex n j a e
      exact ⟨q, by omega, q2, q3⟩
    · by_cases z : w n = 0
      · rw [if_pos z] at b; omega
      · rw [if_neg z] at b
        exact ⟨n, by omega, z, by omega⟩
theorem cn0_le {w : Int → Int} {q p : Nat} (h : q ≤ p) : cn0 w q ≤ cn0 w p := by
  induction p with
  | zero => rw [show q = 0 by omega]; exact Int.le_refl _
  | succ p ih =>
    by_cases e : q = p + 1
    · rw [e]; exact Int.le_refl _
    · have := ih (by omega)
      rw [cn0]
      split <;> omega
def prX : List Nat := [73, 75, 74] ++ clX
def prF : List (Nat × Int) := (70, 9) :: (70, 10) :: clF
def PST (C : AS) (F : FD) (t : Int) (P c : Nat) (s : AS) : Prop := Fr prX prF C s ∧ s 40 9 = t ∧ (∀ p : Int, 0 ≤ p → p < 10 → s 66 p = -1) ∧ (0 ≤ s 40 7 ∧ s 40 7 ≤ C 7 11) ∧ rl (s 40 7) (s 65) = lst C t t (C 7 11) ∧ (0 ≤ s 70 9 ∧ s 70 9 ≤ s 40 7) ∧ (∀ x : Int, 0 ≤ x → x < s 70 9 → tkD (C 8 (s 65 x)) = true → C 71 (C 9 (s 65 x)) = 0) ∧ OPN (C 71) (s 73) P c ∧ (∃ a, KP a s ∧ RX (mpl C F t fo0 (rl (s 70 9) (s 65)) m0) a) ∧ 0 ≤ s 41 9
section PP
variable {Ln : Int} {d : Nat} {C : AS} {n P c : Nat} {G : Int → GF}
theorem lst_at' {s : AS} {t k : Int} (hI : INV C n G) (hl : rl k (s 65) = lst C t t (C 7 11)) {x : Int} (a : 0 ≤ x) (b : x < k) : (0 ≤ s 65 x ∧ s 65 x < C 7 11) ∧ lv C (s 65 x) := by
  have h1 : s 65 x ∈ lst C t t (C 7 11) := by rw [← hl]; exact rl_mem.mpr ⟨x, a, b, rfl⟩
  have h2 := lst_rng hI.1 _ h1
  exact ⟨h2, (hI.1.2.2.2.2.2.2 _ h2.1 h2.2).1⟩
theorem lp_prep59 (hI : INV C n G) {t : Int} {s1 : AS} (hs1 : Fr prX prF C s1) (h9 : s1 40 9 = t) (h66 : ∀ p : Int, 0 ≤ p → p < 10 → s1 66 p = -1) (h7 : 0 ≤ s1 40 7 ∧ s1 40 7 ≤ C 7 11) (hl : rl (s1 40 7) (s1 65) = lst C t t (C 7 11)) (hop : OPN (C 71) (s1 73) P c) (hP : C 4 2 = P) : ∀ (m : Nat) (j : Int), j + m = s1 40 7 → 0 ≤ j → (∀ x : Int, 0 ≤ x → x < j → tkD (C 8 (s1 65 x)) = true → C 71 (C 9 (s1 65 x)) = 0) →
    am_E Ln (d + 7) 5 59 [vR 70, vU, vU, vU] [] (am_up s1 70 9 j) (am_rV (PST C (findF C G) t P c)) := by
  have hL := hI.1.2.2.2.2.1
  -- the end: what is unchanged is played and kept
  have fin : ∀ j : Int, 0 ≤ j → j ≤ s1 40 7 → (∀ x : Int, 0 ≤ x → x < j → tkD (C 8 (s1 65 x)) = true → C 71 (C 9 (s1 65 x)) = 0) → ∃ T : Option AV → AS → Prop, am_M Ln (d + 7) 73 [vR 41] (am_up s1 70 9 j) T ∧ ∀ s2, T none s2 → ∃ T : Option AV → AS → Prop, am_M Ln (d + 7) 36 [vR 40, vI 0, vI (s2 70 9)] s2 T ∧ ∀ s3, T none s3 → ∃ T : Option AV → AS → Prop, am_M Ln (d + 7) 34 [vR 40] s3 T ∧ ∀ s4, T none s4 → PST C (findF C G) t P c s4 := by
    intro j h0 hj hun
    have e709 : (am_up s1 70 9 j) 70 9 = j := by rw [am_up_eq, if_pos rfl]
    have f1 : Fr prX prF C (am_up s1 70 9 j) := hs1.up (Or.inr (by decide))
    have u65 : (am_up s1 70 9 j) 65 = s1 65 := am_up_ne (by decide)
    have u66 : (am_up s1 70 9 j) 66 = s1 66 := am_up_ne (by decide)
    have u40 : (am_up s1 70 9 j) 40 = s1 40 := am_up_ne (by decide)
    have u73 : (am_up s1 70 9 j) 73 = s1 73 := am_up_ne (by decide)
    refine cV (sp_clear (d := d + 4) _) ?_
    rintro s2 ⟨c1, c2, c3, c4, c5⟩
    have f2 : Fr prX prF C s2 := f1.tr (c3.mo (by decide) (by decide))
    have v9 : s2 70 9 = j := by rw [c3.fld 70 9 (by decide), e709]
    have v65 : s2 65 = s1 65 := (c3.cell 65 (by decide)).trans u65
    have v66 : s2 66 = s1 66 := (c3.cell 66 (by decide)).trans u66
    have v73 : s2 73 = s1 73 := (c3.cell 73 (by decide)).trans u73
    have v407 : s2 40 7 = s1 40 7 := by rw [c3.fld 40 7 (by decide), u40]
    have v409 : s2 40 9 = s1 40 9 := by rw [c3.fld 40 9 (by decide), u40]
    have hR0 : RX m0 s2 := RX_0 c1 (fun o a b => (c4 o a b).2) c5
    rw [v9]
    refine cV (sp_play (d := d + 1) (fo := fo0) (n := j) (t := t) (ruX_find hI.2.2.1) hI.1.2.2.2.1 hR0 m0_MI (f2.mo (by decide) (by decide)) (by rw [v409]; exact h9) (by omega) (fun p a b => ⟨by rw [v66]; exact h66 p a b, by show (-1 : Int) ≤ -1; omega, by show (-1 : Int) ≤ 4; omega⟩) (by rw [v407]; omega) (by omega) (fun x a b => by rw [v65]; exact (lst_at' hI hl a (by omega)).2) (by omega)) ?_
    rintro s3 ⟨x1, x2, x3, -⟩
    have hrl : rl (j - 0) (fun x => s2 65 (0 + x)) = rl j (s1 65) := by
      rw [show j - 0 = j by omega]
      exact rl_congr (fun x a b => by rw [v65, show 0 + x = x by omega])
    rw [hrl] at x1
    refine cV (sp_keep (d := d + 5) x1.1.1) ?_
    rintro s4 ⟨k1, k2⟩
    have f3 : Fr prX prF C s3 := f2.tr (x2.mo (by decide) (by decide))
    have f4 : Fr prX prF C s4 := f3.tr (k2.mo (by decide) (by decide))
    have w65 : s4 65 = s1 65 := (k2.cell 65 (by decide)).trans ((x2.cell 65 (by decide)).trans v65)
    have w66 : s4 66 = s1 66 := (k2.cell 66 (by decide)).trans ((x2.cell 66 (by decide)).trans v66)
    have w73 : s4 73 = s1 73 := (k2.cell 73 (by decide)).trans ((x2.cell 73 (by decide)).trans v73)
    have w9 : s4 70 9 = j := by rw [k2.fld 70 9 (by decide), x2.fld 70 9 (by decide), v9]
    have w407 : s4 40 7 = s1 40 7 := by rw [k2.fld 40 7 (by decide), x2.fld 40 7 (by decide), v407]
    have w409 : s4 40 9 = t := by rw [k2.fld 40 9 (by decide), x2.fld 40 9 (by decide), v409, h9]
    have w419 : s4 41 9 = s3 41 9 := k2.fld 41 9 (by decide)
    unfold PST
    rw [w65, w66, w73, w9, w407, w409, w419]
    exact ⟨f4, rfl, h66, h7, hl, ⟨h0, hj⟩, hun, hop, ⟨s3, k1, x1⟩, x3⟩
  intro m
  induction m with
  | zero =>
    intro j hj h0 hun
    refine vl_X0_prepare_59 _ ⟨fun _ => fin j h0 (by omega) hun, fun h => absurd ?_ h⟩
    rw [am_up_ne (by decide), am_up_eq, if_pos rfl]; omega
  | succ m ih =>
    intro j hj h0 hun
    have e709 : (am_up s1 70 9 j) 70 9 = j := by rw [am_up_eq, if_pos rfl]
    have u65 : (am_up s1 70 9 j) 65 = s1 65 := am_up_ne (by decide)
    have hat := lst_at' hI hl h0 (show j < s1 40 7 by omega)
    have hlv := hat.2
    have q8 : (am_up s1 70 9 j) 8 = C 8 := by rw [am_up_ne (by decide)]; exact hs1.cell 8 (by decide)
    have q9 : (am_up s1 70 9 j) 9 = C 9 := by rw [am_up_ne (by decide)]; exact hs1.cell 9 (by decide)
    have q71 : (am_up s1 70 9 j) 71 = C 71 := by rw [am_up_ne (by decide)]; exact hs1.cell 71 (by decide)
    have rS : 0 ≤ s1 65 j ∧ s1 65 j < 100 := by have := hat.1; omega
    have hch : am_M Ln (d + 7) 6 [vR 70, vI (s1 65 j)] (am_up s1 70 9 j) (am_rI fun v s => s = am_up s1 70 9 j ∧ (v = 0 ↔ (tkD (C 8 (s1 65 j)) = true → C 71 (C 9 (s1 65 j)) = 0))) := by
      refine vm_X0_isChanged _ _ (cI (sp_takes rS) ?_)
      rintro v s ⟨y1, rfl⟩
      rw [q8] at y1
      rw [q9, q71]
      refine ⟨fun e => ⟨am_b0, rfl, fun _ z => ?_, fun _ => rfl⟩, fun e => ⟨rS, ⟨hlv.2.2.1.1, hlv.2.2.1.2⟩, fun e2 => ⟨am_b0, rfl, fun _ _ => e2, fun _ => rfl⟩, fun e2 => ⟨am_b1, rfl, fun z => absurd z (by decide), fun z => absurd (z ?_) e2⟩⟩⟩
      · rw [if_pos z] at y1; omega
      · by_cases q : tkD (C 8 (s1 65 j)) = true
        · exact q
        · rw [if_neg q] at y1; exact absurd y1 e
    refine vl_X0_prepare_59 _ ⟨fun h => absurd h ?_, fun _ => ?_⟩
    · rw [am_up_ne (by decide), am_up_eq, if_pos rfl]; omega
    · rw [e709, u65]
      refine ⟨by omega, cI hch ?_⟩
      rintro v s ⟨rfl, y2⟩
      refine ⟨fun e => ?_, fun e => fin j h0 (by omega) hun⟩
      rw [e709, w32_id (x := j + 1) (by omega) (by omega)]
      have e3 : am_up (am_up s1 70 9 j) 70 9 (j + 1) = am_up s1 70 9 (j + 1) := by
        funext cc i
        by_cases z : cc = 70
        · subst z
          rw [am_up_eq, am_up_eq, am_up_eq]
          by_cases z2 : i = 9
          · rw [if_pos z2, if_pos z2]
          · rw [if_neg z2, if_neg z2, if_neg z2]
        · rw [am_up_ne z, am_up_ne z, am_up_ne z]
      rw [e3]
      refine ih (j + 1) (by omega) (by omega) (fun x a b => ?_)
      by_cases z : x = j
      · rw [z]; exact y2.mp e
      · exact hun x a (by omega)
theorem sp_prepare (hI : INV C n G) {t : Int} {s : AS} (hs : Fr [] [] C s) (hP : C 4 2 = P) (hc : C 70 4 = c) : am_M Ln (d + 8) 5 [vR 70, vI t] s (am_rV (PST C (findF C G) t P c)) := by
  obtain ⟨h1, h2, h3, h4, h5, h6, h7, h8⟩ := id hI
  have hP10 := h4.2.1
  have hcP : cn0 (C 71) P = c := by
    rw [← hc, h6.2.2.1]
    exact (cn0_short (by omega) (fun i a b => (h6.2.1 i (by omega) (by omega)).2 (by omega))).symm
  have hc4 : c ≤ 4 := by have := h6.2.2.2; omega
  have fin : ∀ (p : Nat) (f : Int → Int), p ≤ P → (P ≤ p ∨ 4 ≤ cn0 (C 71) p) → (∀ q : Nat, q < p → C 71 q ≠ 0 → f (cn0 (C 71) q) = q) → ∃ T : Option AV → AS → Prop, am_M Ln (d + 7) 31 [vR 40, vI t, vI t] (zc s 73 f) T ∧ ∀ s1, T none s1 → am_E Ln (d + 7) 5 59 [vR 70, vU, vU, vU] [] (am_up s1 70 9 0) (am_rV (PST C (findF C G) t P c)) := by
    intro p f hp hex hf
    have fs : Fr prX prF C (zc s 73 f) := Fr.cl (hs.mo (by decide) (by decide)) (by decide)
    have hall : ∀ q : Nat, q < P → C 71 q ≠ 0 → f (cn0 (C 71) q) = q := by
      intro q a b
      by_cases e : q < p
      · exact hf q e b
      · rcases hex with z | z
        · omega
        · have := cn0_le (w := C 71) (q := p) (p := q) (by omega)
          have := cn0_lt (w := C 71) a b
          omega
    refine cV (sp_list (dd := d + 5) (C := C) (fs.mo (by decide) (by decide)) h1.2.2.2.2.1 (fun k a b => by have := (OKB_lv h1 k a b).1; exact this)) ?_
    rintro s1 ⟨l1, l2, l3, l4, l5⟩
    have f1 : Fr prX prF C s1 := fs.tr (l1.mo (by decide) (by decide))
    have e73 : s1 73 = f := by rw [l1.cell 73 (by decide), zc_eq]
    refine lp_prep59 hI f1 l2 l3 l4 l5 ⟨fun j a b => ?_, fun q a b e => ?_⟩ hP (s1 40 7).toNat 0 (by omega) (by omega) (fun x a b => absurd b (by omega))
    · rw [e73]
      obtain ⟨q, q1, q2, q3⟩ := cn0_ex (w := C 71) P j a (by omega)
      rw [← q3, hall q q1 q2]
      exact ⟨by omega, q2, by rw [show ((q : Int)).toNat = q by omega]⟩
    · have e2 : ((q.toNat : Nat) : Int) = q := by omega
      have hq := hall q.toNat (by omega) (by rw [e2]; exact e)
      have hq2 := cn0_lt (w := C 71) (q := q.toNat) (p := P) (by omega) (by rw [e2]; exact e)
      rw [e73]
      exact ⟨by omega, by omega⟩
  have loop : ∀ (m p : Nat) (f : Int → Int), p + m = P → (∀ q : Nat, q < p → C 71 q ≠ 0 → f (cn0 (C 71) q) = q) → am_E Ln (d + 7) 5 4 [vR 70, vI t, vI (cn0 (C 71) p), vI (p : Int)] [] (zc s 73 f) (am_rV (PST C (findF C G) t P c)) := by
    intro m
    induction m with
    | zero =>
      intro p f hp hf
      obtain rfl : p = P := by omega
      refine vl_X0_prepare_4 _ _ _ _ ⟨fun _ => fin p f (Nat.le_refl p) (Or.inl (Nat.le_refl p)) hf, fun h => absurd ?_ h⟩
      rw [zc_ne (by decide), hs.fld 4 2 (by decide), hP]; omega
    | succ m ih =>
      intro p f hp hf
      have cb := cn0_bd (w := C 71) p
      refine vl_X0_prepare_4 _ _ _ _ ⟨fun h => absurd h ?_, fun _ => ⟨fun h => fin p f (by omega) (Or.inr h) hf, fun h => ⟨by omega, ?_⟩⟩⟩
      · rw [zc_ne (by decide), hs.fld 4 2 (by decide), hP]; omega
      · rw [zc_ne (by decide), hs.cell 71 (by decide), w32_id (x := (p : Int) + 1) (by omega) (by omega), w32_id (x := cn0 (C 71) p + 1) (by omega) (by omega), up_zc, zc_eq, zc_zc]
        refine ⟨fun e => ?_, fun e => ⟨by omega, ?_⟩⟩
        · have kk := ih (p + 1) f (by omega) (fun q a b => by
            by_cases z : q = p
            · rw [z] at b; exact absurd e b
            · exact hf q (by omega) b)
          rw [cn0, if_pos e, Int.add_zero] at kk
          exact kk
        · have kk := ih (p + 1) (fu f (cn0 (C 71) p) p) (by omega) (fun q a b => by
            rw [fu_app]
            by_cases z : q = p
            · rw [z, if_pos rfl]
            · have := cn0_lt (w := C 71) (q := q) (p := p) (by omega) b
              rw [if_neg (by omega)]
              exact hf q (by omega) b)
          rw [cn0, if_neg e] at kk
          exact kk
  have k0 := loop P 0 (s 73) (by omega) (fun q a => absurd a (by omega))
  rw [zc_self] at k0
  exact vm_X0_prepare _ _ k0
end PP
