/-! the model finds the best row -/
def bstM (ok : Int → Prop) (W : Int → Int) (c : Nat) (N b : Int) : Prop := (0 ≤ b ∧ b < N) ∧ ok b ∧ ∀ r : Int, 0 ≤ r → r < N → ok r → W r < W b ∨ (W r = W b ∧ rv c b ≤ rv c r)
def okR (C : AS) (P : Nat) (r : Int) : Prop := LW C (foR (C 71) r) P
def wrR (C : AS) (G : Int → GF) (o : Int) (P NT : Nat) (r : Int) : Int := clm C (mpl C (findF C G) (C 1 10) (foR (C 71) r) (lst C (C 1 10) (C 1 10) (C 7 11)) m0) o P NT
def chX : List Nat := 121 :: pmX
def chF : List (Nat × Int) := (82, 75) :: (82, 76) :: pmF
def inM (ok : Int → Prop) (W : Int → Int) (c : Nat) (N : Int) (s : AS) : Prop := (s 82 75 = -1 ∧ ∀ r : Int, 0 ≤ r → r < N → ¬ ok r) ∨ (bstM ok W c N (s 82 75) ∧ s 82 76 = W (s 82 75))
theorem inM_no {ok : Int → Prop} {W : Int → Int} {c : Nat} {N : Int} {s s' : AS} (h : inM ok W c N s) (hn : ¬ ok N) (e1 : s' 82 75 = s 82 75) (e2 : s' 82 76 = s 82 76) : inM ok W c (N + 1) s' := by
  unfold inM
  rw [e1, e2]
  rcases h with ⟨h1, h2⟩ | ⟨⟨h1, h2, h3⟩, h4⟩
  · refine Or.inl ⟨h1, fun r a b => ?_⟩
    by_cases e : r = N
    · rw [e]; exact hn
    · exact h2 r a (by omega)
  · refine Or.inr ⟨⟨⟨h1.1, by omega⟩, h2, fun r a b z => ?_⟩, h4⟩
    by_cases e : r = N
    · rw [e] at z; exact absurd z hn
    · exact h3 r a (by omega) z
theorem inM_keep {ok : Int → Prop} {W : Int → Int} {c : Nat} {N : Int} {s s' : AS} (h : inM ok W c N s) (hb : s 82 75 ≠ -1) (hk : W N < W (s 82 75) ∨ (W N = W (s 82 75) ∧ rv c (s 82 75) ≤ rv c N)) (e1 : s' 82 75 = s 82 75) (e2 : s' 82 76 = s 82 76) : inM ok W c (N + 1) s' := by
  unfold inM
  rw [e1, e2]
  rcases h with ⟨h1, h2⟩ | ⟨⟨h1, h2, h3⟩, h4⟩
  · exact absurd h1 hb
  · refine Or.inr ⟨⟨⟨h1.1, by omega⟩, h2, fun r a b z => ?_⟩, h4⟩
    by_cases e : r = N
    · rw [e]; exact hk
    · exact h3 r a (by omega) z
theorem inM_new {ok : Int → Prop} {W : Int → Int} {c : Nat} {N : Int} {s s' : AS} (h : inM ok W c N s) (hN : 0 ≤ N) (ho : ok N) (hk : s 82 75 ≠ -1 → W (s 82 75) < W N ∨ (W N = W (s 82 75) ∧ rv c N ≤ rv c (s 82 75))) (e1 : s' 82 75 = N) (e2 : s' 82 76 = W N) : inM ok W c (N + 1) s' := by
  unfold inM
  rw [e1, e2]
  refine Or.inr ⟨⟨⟨hN, by omega⟩, ho, fun r a b z => ?_⟩, rfl⟩
  by_cases e : r = N
  · rw [e]; exact Or.inr ⟨rfl, Int.le_refl _⟩
  · rcases h with ⟨h1, h2⟩ | ⟨⟨h1, h2, h3⟩, h4⟩
    · exact absurd z (h2 r a (by omega))
    · have := h3 r a (by omega) z
      have := hk (by omega)
      omega
section CS
variable {Ln : Int} {d : Nat} {C : AS} {n P NT c : Nat} {G : Int → GF} {o : Int}
theorem foR_out (hI : INV C n G) (hP : C 4 2 = P) {r x : Int} (a : P ≤ x) (b : x < 10) : foR (C 71) r x = -1 := by
  rw [foR, if_pos ((hI.2.2.2.2.2.1.2.1 x (by omega) b).2 (by omega))]
theorem lp_chooses (hI : INV C n G) (hP : C 4 2 = P) (hT : C 1 12 = NT) (hc : C 70 4 = c) (ho : 0 ≤ o ∧ o < 10) {s0 : AS} (hs0 : Fr wkX wkF C s0) : ∀ (m : Nat) (r : Int) (s : AS), r + m = p5 c → 0 ≤ r → Fr chX chF s0 s → (∀ x : Int, P ≤ x → x < 10 → s 121 x = -1) → inM (okR C P) (wrR C G o P NT) c r s →
    am_E Ln (d + 11) 233 12 [vR 82, vI o, vI (c : Int), vI r, vU] [] s (am_rI fun v s' => Fr chX chF s0 s' ∧ (∀ x : Int, 0 ≤ x → x < 10 → s' 121 x = -1) ∧ ((v = 0 ∧ ∀ r : Int, 0 ≤ r → r < p5 c → ¬ okR C P r) ∨ (v = 1 ∧ bstM (okR C P) (wrR C G o P NT) c (p5 c) (s' 82 75) ∧ s' 82 76 = wrR C G o P NT (s' 82 75)))) := by
  have hc4 : c ≤ 4 := by have := hI.2.2.2.2.2.1.2.2.2; omega
  have h5 := p5_le hc4
  intro m
  induction m with
  | zero =>
    intro r s hr h0 hs h121 hin
    obtain rfl : r = p5 c := by omega
    refine vl_X12_chooses_12 _ _ _ _ (cI (sp_mrows hc4) ?_)
    rintro v s1 ⟨rfl, rfl⟩
    refine ⟨fun _ => cV sp_unlaid ?_, fun h => absurd (Int.le_refl _) h⟩
    rintro s3 ⟨f, rfl, hf⟩
    have e75 : zc s1 121 f 82 = s1 82 := zc_ne (by decide)
    have hs3 : Fr chX chF s0 (zc s1 121 f) := hs.cl (by decide)
    have h1 : ∀ x : Int, 0 ≤ x → x < 10 → zc s1 121 f 121 x = -1 := fun x a b => by rw [zc_eq]; exact hf x a b
    rw [e75]
    refine ⟨fun e => ⟨am_b0, hs3, h1, ?_⟩, fun e => ⟨am_b1, hs3, h1, ?_⟩⟩
    · rcases hin with ⟨z1, z2⟩ | ⟨z1, z2⟩
      · exact Or.inl ⟨rfl, z2⟩
      · have := z1.1; omega
    · rcases hin with ⟨z1, z2⟩ | ⟨z1, z2⟩
      · exact absurd z1 e
      · rw [e75]; exact Or.inr ⟨rfl, z1, z2⟩
  | succ m ih =>
    intro r s hr h0 hs h121 hin
    refine vl_X12_chooses_12 _ _ _ _ (cI (sp_mrows hc4) ?_)
    rintro v s1 ⟨rfl, rfl⟩
    have hws : Fr wkX wkF C s1 := hs0.tr (hs.mo (by decide) (by decide))
    refine ⟨fun h => absurd h (by omega), fun _ => cI (sp_laid hI hws (by omega) hP h121) ?_⟩
    rintro v s4 ⟨b1, b2, f, rfl, hf⟩
    have e75 : zc s1 121 f 82 = s1 82 := zc_ne (by decide)
    have hs4 : Fr chX chF s0 (zc s1 121 f) := hs.cl (by decide)
    have hw4 : Fr wkX wkF C (zc s1 121 f) := hws.cl (by decide)
    have h4 : ∀ x : Int, P ≤ x → x < 10 → f x = -1 := fun x a b => by rw [hf x (by omega) b]; exact foR_out hI hP a b
    rw [w32_id (x := r + 1) (by omega) (by omega)]
    refine ⟨fun e => ?_, fun e => cI (sp_worthOf (d := d + 1) (fo := foR (C 71) r) hI hw4 (fun p a b => ⟨by rw [zc_eq]; exact hf p a b, foR_rg⟩) ho hP hT) ?_⟩
    · exact ih (r + 1) _ (by omega) (by omega) hs4 (fun x a b => by rw [zc_eq]; exact h4 x a b) (inM_no hin (fun z => b2.mpr z e) (by rw [e75]) (by rw [e75]))
    · rintro w s6 ⟨y1, y2⟩
      have ok : okR C P r := b2.mp e
      have ew : w = wrR C G o P NT r := y1
      have hs6 : Fr chX chF s0 s6 := hs4.tr (y2.mo (by decide) (by decide))
      have q75 : s6 82 75 = s1 82 75 := by rw [y2.fld 82 75 (by decide), e75]
      have q76 : s6 82 76 = s1 82 76 := by rw [y2.fld 82 76 (by decide), e75]
      have h6 : ∀ x : Int, P ≤ x → x < 10 → s6 121 x = -1 := fun x a b => by rw [y2.cell 121 (by decide), zc_eq]; exact h4 x a b
      have upd : (s1 82 75 ≠ -1 → wrR C G o P NT (s1 82 75) < wrR C G o P NT r ∨ (wrR C G o P NT r = wrR C G o P NT (s1 82 75) ∧ rv c r ≤ rv c (s1 82 75))) → am_E Ln (d + 11) 233 12 [vR 82, vI o, vI (c : Int), vI (r + 1), vU] [] (am_up (am_up s6 82 75 r) 82 76 w) (am_rI fun v s' => Fr chX chF s0 s' ∧ (∀ x : Int, 0 ≤ x → x < 10 → s' 121 x = -1) ∧ ((v = 0 ∧ ∀ r : Int, 0 ≤ r → r < p5 c → ¬ okR C P r) ∨ (v = 1 ∧ bstM (okR C P) (wrR C G o P NT) c (p5 c) (s' 82 75) ∧ s' 82 76 = wrR C G o P NT (s' 82 75)))) := by
        intro hk
        refine ih (r + 1) _ (by omega) (by omega) (Fr.up (Fr.up hs6 (Or.inr (by decide))) (Or.inr (by decide))) (fun x a b => by rw [am_up_ne (by decide), am_up_ne (by decide)]; exact h6 x a b) (inM_new hin h0 ok hk ?_ ?_)
        · rw [am_up_eq, if_neg (by decide), am_up_eq, if_pos rfl]
        · rw [am_up_eq, if_pos rfl, ew]
      rw [q75, q76]
      refine ⟨fun e1 => upd (fun z => absurd e1 z), fun e1 => ?_⟩
      have hb : bstM (okR C P) (wrR C G o P NT) c r (s1 82 75) ∧ s1 82 76 = wrR C G o P NT (s1 82 75) := by
        rcases hin with ⟨z1, z2⟩ | z
        · exact absurd z1 e1
        · exact z
      rw [hb.2, ew]
      refine ⟨fun z => ih (r + 1) _ (by omega) (by omega) hs6 h6 (inM_keep hin e1 (Or.inl z) q75 q76), fun z => ⟨fun z2 => cI (sp_isLess (by omega) (by have := hb.1.1; omega) hc4) ?_, fun z2 => ?_⟩⟩
      · rintro v9 s8 ⟨y3, rfl⟩
        refine ⟨fun e9 => ih (r + 1) _ (by omega) (by omega) hs6 h6 (inM_keep hin e1 (Or.inr ⟨z2, ?_⟩) q75 q76), fun e9 => ?_⟩
        · by_cases l : rv c r < rv c (s1 82 75)
          · rw [if_pos l] at y3; omega
          · omega
        · rw [← ew]
          refine upd (fun _ => Or.inr ⟨z2, ?_⟩)
          by_cases l : rv c r < rv c (s1 82 75)
          · omega
          · rw [if_neg l] at y3; exact absurd y3 e9
      · rw [← ew]
        exact upd (fun _ => Or.inl (by omega))
theorem sp_chooses (hI : INV C n G) (hP : C 4 2 = P) (hT : C 1 12 = NT) (hc : C 70 4 = c) (ho : 0 ≤ o ∧ o < 10) {s0 : AS} (hs0 : Fr wkX wkF C s0) (h121 : s0 121 = C 121) :
    am_M Ln (d + 12) 233 [vR 82, vI o] s0 (am_rI fun v s' => Fr chX chF s0 s' ∧ (∀ x : Int, 0 ≤ x → x < 10 → s' 121 x = -1) ∧ ((v = 0 ∧ ∀ r : Int, 0 ≤ r → r < p5 c → ¬ okR C P r) ∨ (v = 1 ∧ bstM (okR C P) (wrR C G o P NT) c (p5 c) (s' 82 75) ∧ s' 82 76 = wrR C G o P NT (s' 82 75)))) := by
  refine vm_X12_chooses _ _ (cI (sp_choosing hI hs0) ?_)
  rintro v s1 ⟨rfl, rfl⟩
  rw [hc]
  have hp := p5_pos c
  refine lp_chooses hI hP hT hc ho hs0 (p5 c).toNat 0 _ (by omega) (by omega) (Fr.up Fr.rf (Or.inr (by decide))) (fun x a b => ?_) (Or.inl ⟨?_, fun r a b => absurd b (by omega)⟩)
  · rw [am_up_ne (by decide), h121]
    exact hI.2.2.2.1.2.2.2.2.2.2 x (by omega) b
  · rw [am_up_eq, if_pos rfl]
end CS
