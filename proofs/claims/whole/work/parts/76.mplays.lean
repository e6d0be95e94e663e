/-! the model lists and plays -/
theorem rl_pw {α : Type} {R : α → α → Prop} {f : Int → α} : ∀ {n : Nat}, (rl n f).Pairwise R ↔ ∀ a b : Int, 0 ≤ a → a < b → b < n → R (f a) (f b)
  | 0 => ⟨fun _ a b h0 h1 h2 => by omega, fun _ => List.Pairwise.nil⟩
  | n + 1 => by
    have ih := rl_pw (R := R) (f := f) (n := n)
    rw [show ((n + 1 : Nat) : Int) = (n : Int) + 1 by omega, rl_succ _ (by omega), List.pairwise_append, ih]
    constructor
    · rintro ⟨h1, -, h3⟩ a b h0 hab hb
      by_cases e : b = n
      · rw [e]
        exact h3 _ (rl_mem.mpr ⟨a, h0, by omega, rfl⟩) _ (by rw [List.mem_singleton])
      · exact h1 a b h0 hab (by omega)
    · intro h
      refine ⟨fun a b h0 h1 h2 => h a b h0 h1 (by omega), List.pairwise_singleton _ _, fun x hx y hy => ?_⟩
      obtain ⟨a, c0, c1, rfl⟩ := rl_mem.mp hx
      rw [List.mem_singleton.mp hy]
      exact h a n c0 c1 (by omega)
/-- the books are sound -/
def OKB (C : AS) (n : Nat) : Prop := BK C ∧ C 1 11 = n ∧ n ≤ 10 ∧ C 19 4 ≤ 100 ∧ (0 ≤ C 7 11 ∧ C 7 11 ≤ 100) ∧ SI C ∧ ∀ i : Int, 0 ≤ i → i < C 7 11 → lv C i ∧ lvn C n i
theorem lp_mins {Ln : Int} {d : Nat} {C σ0 σ1 : AS} {dd t i : Int} {n : Nat} {Q : Option AV → AS → Prop} (hO : OKB C n) (hf : Fr wkX wkF C σ1) (hi : 0 ≤ i ∧ i < C 7 11) (hk : knw C t i = true) (hd : C 13 i ≤ dd) (hm : mlst C dd t i σ0 σ1)
    (hend : ∀ σ, mlst C dd t (i + 1) σ0 σ → am_E Ln (d + 1) 205 7 [vR 82, vI dd, vI t, vI (i + 1), vU] [] σ Q) : ∀ (k : Nat) (σ : AS), (k : Int) ≤ σ1 82 63 → Fr [126] [] σ1 σ → (∀ j : Int, j < k → σ 126 j = σ1 126 j) → (∀ j : Int, k < j → j ≤ σ1 82 63 → σ 126 j = σ1 126 (j - 1)) → (∀ j : Int, k ≤ j → j < σ1 82 63 → ahd C i (σ1 126 j)) →
    am_E Ln (d + 1) 205 43 [vR 82, vI dd, vI t, vI i, vI (k : Int)] [] σ Q := by
  obtain ⟨hB, o1, o2, o3, o4, o5, o6⟩ := hO
  obtain ⟨m1, m2, m3, m4⟩ := hm
  obtain ⟨R, hR⟩ : ∃ R : Nat, σ1 82 63 = R := ⟨(σ1 82 63).toNat, by omega⟩
  have hrow : mrow σ1 = rl R (σ1 126) := by unfold mrow; rw [hR]
  rw [hrow] at m3 m4
  have pw := rl_pw.mp m3
  have mem : ∀ j : Int, 0 ≤ j → j < R → (0 ≤ σ1 126 j ∧ σ1 126 j < i) := fun j a b => ((m4 _).mp (rl_mem.mpr ⟨j, a, b, rfl⟩)).1
  have fin : ∀ (k : Int) (σ : AS), 0 ≤ k → k ≤ R → Fr [126] [] σ1 σ → (∀ j : Int, j < k → σ 126 j = σ1 126 j) → (∀ j : Int, k < j → j ≤ R → σ 126 j = σ1 126 (j - 1)) → (∀ j : Int, k ≤ j → j < R → ahd C i (σ1 126 j)) → (0 < k → ¬ ahd C i (σ1 126 (k - 1))) →
      am_E Ln (d + 1) 205 7 [vR 82, vI dd, vI t, vI (w32 (i + 1)), vU] [] (am_up (am_up σ 126 k i) 82 63 (w32 (σ 82 63 + 1))) Q := by
    intro k σ h0 h1 hfr ha hb hc hz
    have e63 : σ 82 63 = R := by rw [hfr.fld 82 63 (by decide), hR]
    rw [w32_id (by omega) (by omega), e63, w32_id (by omega) (by omega)]
    obtain ⟨τ, hτ⟩ : ∃ τ, τ = am_up (am_up σ 126 k i) 82 63 ((R : Int) + 1) := ⟨_, rfl⟩
    rw [← hτ]
    have t63 : τ 82 63 = (R : Int) + 1 := by rw [hτ, am_up_eq, if_pos rfl]
    have t126 : ∀ j, τ 126 j = if j = k then i else σ 126 j := fun j => by rw [hτ, am_up_ne (by decide), am_up_eq]
    have v : ∀ j : Int, 0 ≤ j → j ≤ R → (j < k ∧ τ 126 j = σ1 126 j) ∨ (j = k ∧ τ 126 j = i) ∨ (k < j ∧ τ 126 j = σ1 126 (j - 1)) := by
      intro j c0 c1
      rw [t126]
      by_cases e : j = k
      · rw [if_pos e]; exact Or.inr (Or.inl ⟨e, rfl⟩)
      · rw [if_neg e]
        by_cases e2 : j < k
        · exact Or.inl ⟨e2, ha j e2⟩
        · exact Or.inr (Or.inr ⟨by omega, hb j (by omega) c1⟩)
    have before : ∀ j : Int, 0 ≤ j → j < k → ahd C (σ1 126 j) i := by
      intro j c0 c1
      have hl : ahd C (σ1 126 (k - 1)) i := by
        have hne : σ1 126 (k - 1) ≠ i := by have := mem (k - 1) (by omega) (by omega); omega
        exact (ahd_tot hne).resolve_right (hz (by omega))
      by_cases e : j = k - 1
      · rw [e]; exact hl
      · exact ahd_tr (pw j (k - 1) c0 (by omega) (by omega)) hl
    have hrow' : mrow τ = rl ((R + 1 : Nat) : Int) (τ 126) := by unfold mrow; rw [t63]; rfl
    refine hend τ ⟨?_, ⟨by omega, by omega⟩, ?_, fun x => ?_⟩
    · rw [hτ]
      exact m1.tr (Fr.up (Fr.up (hfr.mo (by decide) (by decide)) (Or.inl (by decide))) (Or.inr (by decide)))
    · rw [hrow', rl_pw]
      intro a b c0 c1 c2
      rcases v a c0 (by omega) with ⟨u1, u2⟩ | ⟨u1, u2⟩ | ⟨u1, u2⟩
      · rcases v b (by omega) (by omega) with ⟨w1, w2⟩ | ⟨w1, w2⟩ | ⟨w1, w2⟩
        · rw [u2, w2]; exact pw a b c0 c1 (by omega)
        · rw [u2, w2]; exact before a c0 u1
        · rw [u2, w2]
          exact ahd_tr (before a c0 u1) (hc (b - 1) (by omega) (by omega))
      · rcases v b (by omega) (by omega) with ⟨w1, w2⟩ | ⟨w1, w2⟩ | ⟨w1, w2⟩
        · omega
        · omega
        · rw [u2, w2]; exact hc (b - 1) (by omega) (by omega)
      · rcases v b (by omega) (by omega) with ⟨w1, w2⟩ | ⟨w1, w2⟩ | ⟨w1, w2⟩
        · omega
        · omega
        · rw [u2, w2]; exact pw (a - 1) (b - 1) (by omega) (by omega) (by omega)
    · rw [hrow']
      constructor
      · intro hx
        obtain ⟨j, c0, c1, rfl⟩ := rl_mem.mp hx
        rcases v j c0 (by omega) with ⟨u1, u2⟩ | ⟨u1, u2⟩ | ⟨u1, u2⟩
        · rw [u2]
          have := (m4 _).mp (rl_mem.mpr ⟨j, c0, by omega, rfl⟩)
          exact ⟨⟨this.1.1, by omega⟩, this.2⟩
        · rw [u2]; exact ⟨⟨hi.1, by omega⟩, hk, hd⟩
        · rw [u2]
          have := (m4 _).mp (rl_mem.mpr ⟨j - 1, by omega, by omega, rfl⟩)
          exact ⟨⟨this.1.1, by omega⟩, this.2⟩
      · rintro ⟨⟨x0, x1⟩, x2, x3⟩
        by_cases e : x = i
        · refine rl_mem.mpr ⟨k, h0, by omega, ?_⟩
          rw [t126, if_pos rfl, e]
        · obtain ⟨j, c0, c1, c2⟩ := rl_mem.mp ((m4 x).mpr ⟨⟨x0, by omega⟩, x2, x3⟩)
          by_cases e2 : j < k
          · refine rl_mem.mpr ⟨j, c0, by omega, ?_⟩
            rw [t126, if_neg (by omega), ha j e2, c2]
          · refine rl_mem.mpr ⟨j + 1, by omega, by omega, ?_⟩
            rw [t126, if_neg (by omega), hb (j + 1) (by omega) (by omega), show j + 1 - 1 = j by omega, c2]
  rw [hR]
  intro k
  induction k with
  | zero =>
    intro σ hkR hfr ha hb hc
    refine vl_X12_lists_43 _ _ _ _ _ ⟨fun _ => ⟨⟨by omega, by omega⟩, ?_⟩, fun q => absurd (by omega) q⟩
    exact fin 0 σ (by omega) (by omega) hfr ha hb hc (fun q => absurd q (by omega))
  | succ k ih =>
    intro σ hkR hfr ha hb hc
    have hk1 : ((k + 1 : Nat) : Int) = (k : Int) + 1 := by omega
    rw [hk1] at hkR ha hb hc ⊢
    have ev : σ 126 k = σ1 126 k := ha k (by omega)
    have hmk := mem k (by omega) (by omega)
    have fC : Fr wkX wkF C σ := hf.tr (hfr.mo (by decide) (by decide))
    refine vl_X12_lists_43 _ _ _ _ _ ⟨fun q => absurd q (by omega), fun _ => ?_⟩
    rw [w32_id (x := (k : Int) + 1 - 1) (by omega) (by omega), show (k : Int) + 1 - 1 = k by omega, ev]
    refine ⟨⟨by omega, by omega⟩, cI (sp_mAhead hB fC ⟨hi.1, by omega⟩ ⟨hmk.1, by omega⟩) ?_⟩
    rintro r s1 ⟨r1, r2, rfl⟩
    refine ⟨fun q => ⟨⟨by omega, by omega⟩, ?_⟩, fun q => ⟨⟨by omega, by omega⟩, ⟨by omega, by omega⟩, ?_⟩⟩
    · refine fin ((k : Int) + 1) s1 (by omega) (by omega) hfr ha hb hc (fun _ => ?_)
      rw [show (k : Int) + 1 - 1 = k by omega]
      exact r1 q
    · rw [w32_id (by omega) (by omega), show (k : Int) + 1 + -1 = k by omega, ev]
      refine ih _ (by omega) (Fr.up hfr (Or.inl (by decide))) (fun j hj => ?_) (fun j c0 c1 => ?_) (fun j c0 c1 => ?_)
      · rw [am_up_eq, if_neg (by omega)]; exact ha j (by omega)
      · rw [am_up_eq]
        by_cases e : j = (k : Int) + 1
        · rw [if_pos e, e, show (k : Int) + 1 - 1 = k by omega]
        · rw [if_neg e]; exact hb j (by omega) c1
      · by_cases e : j = k
        · rw [e]; exact r2 q
        · exact hc j (by omega) c1
theorem lp_mlists {Ln : Int} {d : Nat} {C σ0 : AS} {dd t : Int} {n : Nat} (hO : OKB C n) (hf : Fr wkX wkF C σ0) : ∀ (q : Nat) (i : Int) (σ : AS), 0 ≤ i → i ≤ C 7 11 → (C 7 11 - i).toNat = q → mlst C dd t i σ0 σ →
    am_E Ln (d + 1) 205 7 [vR 82, vI dd, vI t, vI i, vU] [] σ (am_rV (mlst C dd t (C 7 11) σ0)) := by
  obtain ⟨hB, o1, o2, o3, o4, o5, o6⟩ := id hO
  intro q
  induction q with
  | zero =>
    intro i σ h0 h1 hq hm
    obtain rfl : i = C 7 11 := by omega
    have e6 : σ 82 6 = C 7 11 := by rw [hm.1.fld 82 6 (by decide), hf.fld 82 6 (by decide)]; exact hB.2.2.2.2.2.2.2.1
    exact vl_X12_lists_7 _ _ _ _ ⟨fun _ => hm, fun h => absurd (by omega) h⟩
  | succ q ih =>
    intro i σ h0 h1 hq hm
    have fC : Fr wkX wkF C σ := hf.tr (hm.1.mo (by decide) (by decide))
    have e6 : σ 82 6 = C 7 11 := by rw [fC.fld 82 6 (by decide)]; exact hB.2.2.2.2.2.2.2.1
    have skip : (¬ (knw C t i = true ∧ C 13 i ≤ dd)) → mlst C dd t (i + 1) σ0 σ := by
      intro hn
      obtain ⟨m1, m2, m3, m4⟩ := hm
      refine ⟨m1, ⟨m2.1, by omega⟩, m3, fun x => ?_⟩
      rw [m4]
      constructor
      · rintro ⟨a, b⟩; exact ⟨⟨a.1, by omega⟩, b⟩
      · rintro ⟨a, b⟩
        refine ⟨⟨a.1, ?_⟩, b⟩
        by_cases e : x = i
        · rw [e] at b; exact absurd b hn
        · omega
    refine vl_X12_lists_7 _ _ _ _ ⟨fun h => absurd h (by omega), fun _ => cI (sp_mKnown hB fC ⟨h0, by omega⟩) ?_⟩
    rintro r s1 ⟨r1, rfl⟩
    have e90 : s1 90 = C 13 := by rw [fC.cell 90 (by decide)]; exact hB.1.2.2.2.2.2.2.1
    rw [e90]
    have nx : mlst C dd t (i + 1) σ0 s1 → am_E Ln (d + 1) 205 7 [vR 82, vI dd, vI t, vI (w32 (i + 1)), vU] [] s1 (am_rV (mlst C dd t (C 7 11) σ0)) := fun h => by
      rw [w32_id (by omega) (by omega)]
      exact ih (i + 1) s1 (by omega) (by omega) (by omega) h
    refine ⟨fun hz => nx (skip ?_), fun hz => ⟨⟨h0, by omega⟩, fun h2 => ?_, fun h2 => nx (skip (fun z => h2 z.2))⟩⟩
    · rintro ⟨z, -⟩
      rw [if_pos z] at r1
      omega
    · have hk : knw C t i = true := by
        by_cases z : knw C t i = true
        · exact z
        · rw [if_neg z] at r1; exact absurd r1 hz
      obtain ⟨R, hR⟩ : ∃ R : Nat, s1 82 63 = R := ⟨(s1 82 63).toNat, by have := hm.2.1; omega⟩
      rw [hR]
      exact lp_mins hO fC ⟨h0, by omega⟩ hk h2 hm (fun τ hτ => ih (i + 1) τ (by omega) (by omega) (by omega) hτ) R s1 (by omega) Fr.rf (fun _ _ => rfl) (fun j a b => by omega) (fun j a b => by omega)
theorem sp_mlists {Ln : Int} {d : Nat} {C σ : AS} {dd t : Int} {n : Nat} (hO : OKB C n) (hf : Fr wkX wkF C σ) : am_M Ln (d + 2) 205 [vR 82, vI dd, vI t] σ (am_rV fun σ' => Fr [126] [(82, 63)] σ σ' ∧ (0 ≤ σ' 82 63 ∧ σ' 82 63 ≤ 100) ∧ rl (σ' 82 63) (σ' 126) = lst C dd t (C 7 11)) := by
  have o4 := hO.2.2.2.2.1
  refine vm_X12_lists _ _ _ ?_
  have e63 : am_up σ 82 63 0 82 63 = 0 := by rw [am_up_eq, if_pos rfl]
  have hrow : mrow (am_up σ 82 63 0) = [] := by unfold mrow; rw [e63]; rfl
  refine am_EV (lp_mlists (dd := dd) (t := t) hO hf _ 0 _ (by omega) o4.1 rfl ⟨Fr.up Fr.rf (Or.inr (by decide)), by omega, by rw [hrow]; exact List.Pairwise.nil, fun x => by rw [hrow]; simp; omega⟩) ?_
  rintro s ⟨m1, m2, m3, m4⟩
  refine ⟨m1, ⟨m2.1, by omega⟩, srt_eq m3 (lst_srt hO.2.2.2.2.2.1) (fun x => ?_)⟩
  show x ∈ mrow s ↔ _
  rw [m4, lst_in hO.2.2.2.2.2.1]
theorem sp_empties {Ln : Int} {d : Nat} (σ : AS) : am_M Ln (d + 1) 178 [vR 82] σ (am_rV fun σ' => Fr [113, 116, 117] [] σ σ' ∧ RM m0 σ') := by
  have l2 : ∀ (m k : Nat) (f g h : Int → Int), k + m = 100 → (∀ p : Int, 0 ≤ p → p < 10 → f p = 0) → (∀ c : Int, 0 ≤ c → c < k → g c = 0 ∧ h c = 0) → am_E Ln d 178 23 [vR 82, vI (k : Int)] [] (zc (zc (zc σ 113 f) 116 g) 117 h) (am_rV fun σ' => Fr [113, 116, 117] [] σ σ' ∧ RM m0 σ') := by
    intro m
    induction m with
    | zero =>
      intro k f g h hk hf hg
      obtain rfl : k = 100 := by omega
      refine vl_X12_empties_23 _ _ ⟨fun _ => ⟨Fr.cl (Fr.cl (Fr.cl Fr.rf (by decide)) (by decide)) (by decide), fun p a b => ?_, fun c a b => ?_, fun c a b => ?_⟩, fun q => absurd (by omega) q⟩
      · have e : zc (zc (zc σ 113 f) 116 g) 117 h 113 p = 0 := by rw [zc_ne (by decide), zc_ne (by decide), zc_eq]; exact hf p a b
        refine ⟨?_, by omega⟩
        unfold mp
        rw [e]
        rfl
      · rw [zc_ne (by decide), zc_eq]; exact (hg c a (by omega)).1
      · rw [zc_eq]; exact (hg c a (by omega)).2
    | succ m ih =>
      intro k f g h hk hf hg
      refine vl_X12_empties_23 _ _ ⟨fun q => absurd q (by omega), fun _ => ⟨⟨by omega, by omega⟩, ⟨by omega, by omega⟩, ?_⟩⟩
      have e : am_up (am_up (zc (zc (zc σ 113 f) 116 g) 117 h) 116 (k : Int) 0) 117 (k : Int) 0 = zc (zc (zc σ 113 f) 116 (fu g k 0)) 117 (fu h k 0) := by
        rw [up_zc, up_zc, zc_comm (by decide), zc_zc, zc_ne (by decide), zc_eq, zc_ne (by decide), zc_eq]
        rw [zc_comm (by decide : 117 ≠ 116), zc_zc]
      rw [e, w32_id (by omega) (by omega)]
      exact ih (k + 1) f (fu g k 0) (fu h k 0) (by omega) hf (fun c a b => by
        by_cases ee : c = k
        · rw [ee, fu_eq, fu_eq]; exact ⟨rfl, rfl⟩
        · rw [fu_ne ee, fu_ne ee]; exact hg c a (by omega))
  have l1 : ∀ (m k : Nat) (f : Int → Int), k + m = 10 → (∀ p : Int, 0 ≤ p → p < k → f p = 0) → am_E Ln d 178 2 [vR 82, vI (k : Int)] [] (zc σ 113 f) (am_rV fun σ' => Fr [113, 116, 117] [] σ σ' ∧ RM m0 σ') := by
    intro m
    induction m with
    | zero =>
      intro k f hk hf
      obtain rfl : k = 10 := by omega
      refine vl_X12_empties_2 _ _ ⟨fun _ => ?_, fun q => absurd (by omega) q⟩
      have key := l2 100 0 f (σ 116) (σ 117) (by omega) (fun p a b => hf p a (by omega)) (fun c a b => by omega)
      have e1 : zc (zc σ 113 f) 116 (σ 116) = zc σ 113 f := by
        have := zc_self (zc σ 113 f) 116
        rwa [zc_ne (by decide)] at this
      have e2 : zc (zc σ 113 f) 117 (σ 117) = zc σ 113 f := by
        have := zc_self (zc σ 113 f) 117
        rwa [zc_ne (by decide)] at this
      rw [e1, e2] at key
      exact key
    | succ m ih =>
      intro k f hk hf
      refine vl_X12_empties_2 _ _ ⟨fun q => absurd q (by omega), fun _ => ⟨⟨by omega, by omega⟩, ?_⟩⟩
      rw [up_zcs, w32_id (by omega) (by omega)]
      exact ih (k + 1) (fu f k 0) (by omega) (fun p a b => by
        by_cases ee : p = k
        · rw [ee, fu_eq]
        · rw [fu_ne ee]; exact hf p a (by omega))
  have key := l1 10 0 (σ 113) (by omega) (fun p a b => by omega)
  rw [zc_self] at key
  exact vm_X12_empties _ key
