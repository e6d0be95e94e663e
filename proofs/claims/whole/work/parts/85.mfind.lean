/-! the book of rules: what is found in it, by the model -/
theorem sp_valueOf {Ln : Int} {d : Nat} {C σ : AS} {m : MS} {k i l : Int} {n : Nat} (hB : BK C) (hl : lv C i) (hf : Fr wkX wkF C σ) (hn : C 1 11 = n) (hn2 : n ≤ 10) (hr : RM m σ) (hm : MI k m) (hmn : MN n m) (h0 : 0 ≤ fct l) :
    am_M Ln (d + 3) 189 [vR 82, vI l, vI i] σ (am_rI fun r s' => r = facF C i (m.1 (C 9 i)) (fct l) ∧ s' = σ) := by
  obtain ⟨l1, l2, l3, l4, l5, l6, l7⟩ := hl
  have lh := l7 _ l3.1 l3.2
  obtain ⟨⟨b84, b85, b86, b87, b88, b89, b90, b91, b92, b93, b94, b95⟩, -, -, -, bn, -⟩ := hB
  have hT := RM_T hr hm
  have exq := (hr.1 _ l3.1 l3.2).1
  have e3 : σ 82 3 = n := by rw [hf.fld 82 3 (by decide), bn, hn]
  have cs : l = 115 ∨ l = 100 ∨ l = 107 ∨ l = 112 ∨ l = 104 ∨ l = 116 ∨ l = 111 ∨ l = 110 := by
    by_cases h1 : l = 115; · omega
    by_cases h2 : l = 100; · omega
    by_cases h3 : l = 107; · omega
    by_cases h4 : l = 112; · omega
    by_cases h5 : l = 104; · omega
    by_cases h6 : l = 116; · omega
    by_cases h7 : l = 111; · omega
    by_cases h8 : l = 110; · omega
    rw [fct, if_neg h1, if_neg h2, if_neg h3, if_neg h4, if_neg h5, if_neg h6, if_neg h7, if_neg h8] at h0
    omega
  have some1 : l = 110 → ∃ T : Option AV → AS → Prop, am_M Ln (d + 2) 182 [vR 82, vI (C 9 i)] σ T ∧ ∀ (r2 : Int) s1, T (some (vI r2)) s1 → (am_rI fun r s' => r = facF C i (m.1 (C 9 i)) (fct l) ∧ s' = σ) (some (vI r2)) s1 := by
    intro e
    refine cI (sp_some l3 hT e3 hn2) ?_
    rintro r s ⟨h1, h2⟩
    refine ⟨?_, h2⟩
    rw [h1, exq, e]
    show _ = cp (fun o => pof o (m.1 (C 9 i))) 10
    exact (cp_short hn2 (fun o a b => pof_zero (fun q hq => by have := hmn.1 _ l3.1 l3.2 q hq; omega))).symm
  refine vm_X12_valueOf _ _ _ ⟨l1, ?_⟩
  rw [hf.cell 90 (by decide), hf.cell 87 (by decide), hf.cell 84 (by decide), hf.cell 86 (by decide), hf.cell 89 (by decide), b90, b87, b84, b86, b89]
  refine ⟨fun e => ⟨l1, ?_, rfl⟩, fun e => some1 (by omega), fun e => some1 (by omega), fun e => some1 (by omega), fun e => ⟨l3, ?_, rfl⟩, fun e => some1 (by omega), fun e => some1 (by omega), fun e => ⟨l1, ?_, rfl⟩, fun e => some1 (by omega), fun e => some1 (by omega), fun e => some1 (by omega), fun e => ⟨l3, cI (sp_of l3 hT) ?_⟩, fun e => ⟨?_, rfl⟩, fun e => some1 (by omega), fun e => some1 (by omega), fun e => ⟨l1, ?_, rfl⟩, fun e => cI (sp_allOf l3 hT) ?_, fun e => some1 (by omega), trivial⟩
  · rw [e]; rfl
  · rw [e]; rfl
  · rw [e]; rfl
  · rintro r s ⟨h1, h2⟩
    refine ⟨?_, h2⟩
    rw [h1, exq, e]; rfl
  · rw [e]; rfl
  · rw [e]; rfl
  · rintro r s ⟨h1, h2⟩
    refine ⟨?_, h2⟩
    rw [h1, exq, e]; rfl
theorem sp_mlies {Ln : Int} {d : Nat} {σ : AS} {v lo hi : Int} : am_M Ln (d + 1) 134 [vL v, vL lo, vL hi] σ (am_rI fun r σ' => r = (if lo ≤ v ∧ v ≤ hi then 1 else 0) ∧ σ' = σ) := by
  refine vm_X12_lies _ _ _ _ ⟨fun h => ⟨am_b0, ?_, rfl⟩, fun h => ⟨fun h2 => ⟨am_b0, ?_, rfl⟩, fun h2 => ⟨am_b1, ?_, rfl⟩⟩⟩
  · rw [lCmp_lt] at h; rw [if_neg (by omega)]
  · rw [lCmp_gt] at h2; rw [if_neg (by omega)]
  · rw [lCmp_lt] at h; rw [lCmp_gt] at h2; rw [if_pos (by omega)]
def MB (R : Int) (S : Int → Bool) (σ : AS) : Prop := ∀ c : Int, 0 ≤ c → c < 12 * R → σ 124 c = if S c = true then 1 else 0
section MF
variable {Ln : Int} {C : AS} {G : Int → GF} {l la dy t i : Int} {f : Int → Int}
theorem lp_clause70 {d : Nat} {r : Nat} {σ0 : AS} (hB : BK C) (hR : RB C G) (hr : (r : Int) < C 24 14) (hf0 : Fr wkX wkF C σ0) {S : Int → Bool} {n : Nat} (hn : C 29 r = n) {Q : Option AV → AS → Prop}
    (next : ∀ σ, MB (C 24 14) (xsF C r S n) σ → Fr [122, 123, 124] [] σ0 σ → am_E Ln d 194 159 [vR 82, vI l, vI la, vI i, vI t, vI (r : Int), vI (12 * (r : Int))] [] σ Q) :
    ∀ (q j : Nat) (σ : AS), j + q = n → MB (C 24 14) (xsF C r S j) σ → Fr [122, 123, 124] [] σ0 σ →
    am_E Ln d 194 70 [vR 82, vI l, vI la, vI i, vI t, vI (r : Int), vI (12 * (r : Int) + j)] [] σ Q := by
  obtain ⟨⟨R0, R1⟩, hRr⟩ := hR
  obtain ⟨⟨⟨-, -, -, -, r100⟩, n0, n12⟩, hcl⟩ := hRr r (by omega) hr
  intro q
  induction q with
  | zero =>
    intro j σ hj hx hfr
    obtain rfl : j = n := by omega
    have fC : Fr wkX wkF C σ := hf0.tr (hfr.mo (by decide) (by decide))
    refine vl_X12_clauseOf_70 _ _ _ _ _ _ _ ⟨⟨by omega, by omega⟩, ?_⟩
    rw [fC.cell 100 (by decide), r100, hn, w32_id (x := 12 * (r : Int)) (by omega) (by omega), w32_id (x := 12 * (r : Int) + j) (by omega) (by omega)]
    exact ⟨fun _ => next σ hx hfr, fun h => absurd (Int.le_refl _) h⟩
  | succ q ih =>
    intro j σ hj hx hfr
    have hc := hcl (12 * r + j) (by omega) (by omega)
    have fC : Fr wkX wkF C σ := hf0.tr (hfr.mo (by decide) (by decide))
    have own : xsF C r S j (12 * r + j) = S (12 * r + j) := xsF_own (by omega) (fun k a b h => (((hcl (12 * r + k) (by omega) (by omega)).2.1 h).2.2).2)
    have hb := hx (12 * r + j) (by omega) (by omega)
    rw [own] at hb
    have step : ∀ (σ' : AS), MB (C 24 14) (xsF C r S (j + 1)) σ' → Fr [122, 123, 124] [] σ σ' → am_E Ln d 194 70 [vR 82, vI l, vI la, vI i, vI t, vI (r : Int), vI (w32 (12 * (r : Int) + j + 1))] [] σ' Q := by
      intro σ' h1 h2
      rw [w32_id (by omega) (by omega), show 12 * (r : Int) + j + 1 = 12 * (r : Int) + ((j + 1 : Nat) : Int) by omega]
      exact ih (j + 1) σ' (by omega) h1 (hfr.tr h2)
    have same : (S (12 * r + j) = true ∨ C 30 (12 * r + j) ≠ 120 ∨ ¬ C 31 (12 * r + j) < r) → xsF C r S (j + 1) = xsF C r S j := by
      intro h
      funext c
      rw [xsF]
      dsimp only
      rcases h with h | h | h
      · rw [h, Bool.not_true, Bool.false_and, Bool.or_false]
      · rw [decide_eq_false (fun z => h z.1), Bool.and_false, Bool.or_false]
      · rw [decide_eq_false (fun z => h z.2.1), Bool.and_false, Bool.or_false]
    have hSt : ¬ (if S (12 * r + j) = true then (1 : Int) else 0) = 0 → S (12 * r + j) = true := fun hS => by
      by_cases z : S (12 * r + j) = true
      · exact z
      · rw [if_neg z] at hS; exact absurd rfl hS
    refine vl_X12_clauseOf_70 _ _ _ _ _ _ _ ⟨⟨by omega, by omega⟩, ?_⟩
    rw [fC.cell 100 (by decide), fC.cell 101 (by decide), fC.cell 102 (by decide), fC.cell 103 (by decide), r100, hn, hc.1.1, hc.1.2, hb, w32_id (x := 12 * (r : Int)) (by omega) (by omega), w32_id (x := 12 * (r : Int) + n) (by omega) (by omega)]
    refine ⟨fun h => absurd h (by omega), fun _ => ⟨⟨by omega, by omega⟩, fun h120 => ⟨⟨by omega, by omega⟩, fun hS => ⟨⟨by omega, by omega⟩, fun hlt => step σ (by rw [same (Or.inr (Or.inr (by omega)))]; exact hx) Fr.rf, fun hlt => ?_⟩, fun hS => step σ (by rw [same (Or.inl (hSt hS))]; exact hx) Fr.rf⟩, fun h120 => step σ (by rw [same (Or.inr (Or.inl h120))]; exact hx) Fr.rf⟩⟩
    · have hS' : S (12 * r + j) = false := by
        by_cases z : S (12 * r + j) = true
        · rw [if_pos z] at hS; exact absurd hS (by decide)
        · simpa using z
      obtain ⟨c0, c1, c2⟩ := hc.2.1 h120
      have h31 : C 31 (12 * r + j) < r := by omega
      rw [c0, w32_id (x := 12 * C 31 (12 * r + j)) (by omega) (by omega), w32_id (x := 12 * C 31 (12 * r + j) + C 32 (12 * r + j)) (by omega) (by omega), bAnd11]
      refine ⟨⟨by omega, by omega⟩, ⟨by omega, by omega⟩, ⟨by omega, by omega⟩, step _ (fun c a b => ?_) (Fr.up Fr.rf (Or.inl (by decide)))⟩
      rw [am_up_eq, xsF]
      dsimp only
      rw [hS', h120]
      simp only [Bool.not_false, Bool.true_and, true_and, h31]
      by_cases e : c = 12 * C 31 (12 * r + j) + C 32 (12 * r + j)
      · rw [if_pos e, decide_eq_true e.symm, Bool.or_true, if_pos rfl]
      · rw [if_neg e, decide_eq_false (fun z => e z.symm), Bool.or_false]
        exact hx c a b
theorem lp_clause159 {d : Nat} {r : Nat} {σ0 : AS} (hB : BK C) (hR : RB C G) (hr : (r : Int) < C 24 14) (hl : l ≠ 120) (hf0 : Fr wkX wkF C σ0) {S S' : Int → Bool} {n : Nat} (hn : C 29 r = n) (hown : ∀ c : Int, 12 * r ≤ c → S' c = S c) {R : Int}
    (hv : ∀ s, Fr [122, 123, 124] [] σ0 s → ∀ l', 0 ≤ fct l' → am_M Ln (d + 3) 189 [vR 82, vI l', vI i] s (am_rI fun r s' => r = f (fct l') ∧ s' = s))
    (next : ∀ σ, MB (C 24 14) S' σ → Fr [122, 123, 124] [] σ0 σ → am_E Ln (d + 4) 194 37 [vR 82, vI l, vI la, vI i, vI t, vI ((r : Int) - 1), vU] [] σ (am_rI fun x σ' => x = R ∧ Fr [122, 123, 124] [] σ0 σ')) :
    ∀ (q j : Nat) (σ : AS), j + q = n → MB (C 24 14) S' σ → Fr [122, 123, 124] [] σ0 σ →
    am_E Ln (d + 4) 194 159 [vR 82, vI l, vI la, vI i, vI t, vI (r : Int), vI (12 * (r : Int) + j)] [] σ (am_rI fun x σ' => x = orE (fcF C G l f S r n j) R ∧ Fr [122, 123, 124] [] σ0 σ') := by
  obtain ⟨⟨R0, R1⟩, hRr⟩ := hR
  obtain ⟨⟨⟨-, -, -, -, r100⟩, n0, n12⟩, hcl⟩ := hRr r (by omega) hr
  intro q
  induction q with
  | zero =>
    intro j σ hj hx hfr
    obtain rfl : j = n := by omega
    have fC : Fr wkX wkF C σ := hf0.tr (hfr.mo (by decide) (by decide))
    refine vl_X12_clauseOf_159 _ _ _ _ _ _ _ ⟨⟨by omega, by omega⟩, ?_⟩
    rw [fC.cell 100 (by decide), r100, hn, w32_id (x := 12 * (r : Int)) (by omega) (by omega), w32_id (x := 12 * (r : Int) + j) (by omega) (by omega), w32_id (x := (r : Int) + -1) (by omega) (by omega), fcF_nil (by omega)]
    exact ⟨fun _ => next σ hx hfr, fun h => absurd (Int.le_refl _) h⟩
  | succ q ih =>
    intro j σ hj hx hfr
    have hc := hcl (12 * r + j) (by omega) (by omega)
    have fC : Fr wkX wkF C σ := hf0.tr (hfr.mo (by decide) (by decide))
    have hb := hx (12 * r + j) (by omega) (by omega)
    rw [hown _ (by omega)] at hb
    have step : ∀ (σ' : AS), MB (C 24 14) S' σ' → Fr [122, 123, 124] [] σ σ' → fcP C G l f S (12 * r + j) = false → am_E Ln (d + 4) 194 159 [vR 82, vI l, vI la, vI i, vI t, vI (r : Int), vI (w32 (12 * (r : Int) + j + 1))] [] σ' (am_rI fun x σ' => x = orE (fcF C G l f S r n j) R ∧ Fr [122, 123, 124] [] σ0 σ') := by
      intro σ' h1 h2 h3
      rw [w32_id (by omega) (by omega), show 12 * (r : Int) + j + 1 = 12 * (r : Int) + ((j + 1 : Nat) : Int) by omega, fcF_cons (by omega), if_neg (by rw [h3]; decide)]
      exact ih (j + 1) σ' (by omega) h1 (hfr.tr h2)
    refine vl_X12_clauseOf_159 _ _ _ _ _ _ _ ⟨⟨by omega, by omega⟩, ?_⟩
    rw [fC.cell 100 (by decide), fC.cell 101 (by decide), r100, hn, hc.1.1, hb, w32_id (x := 12 * (r : Int)) (by omega) (by omega), w32_id (x := 12 * (r : Int) + n) (by omega) (by omega)]
    refine ⟨fun h => absurd h (by omega), fun _ => ⟨⟨by omega, by omega⟩, fun hl2 => ⟨⟨by omega, by omega⟩, fun hS => ?_, fun hS => step σ hx Fr.rf ?_⟩, fun hl2 => step σ hx Fr.rf (by unfold fcP; rw [decide_eq_false hl2]; simp)⟩⟩
    · have hS' : S (12 * r + j) = false := by
        by_cases z : S (12 * r + j) = true
        · rw [if_pos z] at hS; exact absurd hS (by decide)
        · simpa using z
      obtain ⟨c1, c2, c3, ⟨c5, c5'⟩, m, c6, c7, c8⟩ := hc.2.2 (by rw [hl2]; exact hl)
      have z104 : σ 104 = C 104 := fC.cell 104 (by decide)
      have z105 : σ 105 = C 105 := fC.cell 105 (by decide)
      have hcd : cds σ (160 * r + σ 104 (12 * r + j)) m := by
        unfold cds at c6 ⊢
        rw [z104, fC.cell 106 (by decide), fC.cell 107 (by decide)]
        exact c6
      refine cI (sp_mholds (d := d) (r := (r : Int)) (f := f) (g := G (12 * r + j)) (m := m) ⟨by omega, by omega⟩ (by omega) hcd (by rw [z104, z105]; exact c7) (by rw [z104]; exact c5) (by rw [z105]; omega) c8 (fun s l' hs hl' => hv s (hfr.tr (hs.mo (by decide) (by decide))) l' hl')) ?_
      rintro r2 s1 ⟨y1, y2⟩
      have hx1 : MB (C 24 14) S' s1 := fun c a b => by rw [y2.cell 124 (by decide)]; exact hx c a b
      refine ⟨fun hz => step s1 hx1 (y2.mo (by decide) (by decide)) ?_, fun hz => ?_⟩
      · unfold fcP
        rw [decide_eq_false (p := G (12 * r + j) f = some 1) (fun z => by rw [if_pos z] at y1; omega)]
        simp
      · have hg : G (12 * r + j) f = some 1 := by
          by_cases z : G (12 * r + j) f = some 1
          · exact z
          · rw [if_neg z] at y1; exact absurd y1 hz
        refine ⟨?_, hfr.tr (y2.mo (by decide) (by decide))⟩
        rw [fcF_cons (by omega), if_pos (by unfold fcP; rw [hS', hg, hl2]; simp)]
        rfl
    · have hS' : S (12 * r + j) = true := by
        by_cases z : S (12 * r + j) = true
        · exact z
        · rw [if_neg z] at hS; exact absurd rfl hS
      unfold fcP
      rw [hS']
      rfl
theorem lp_clause37 {d : Nat} {σ0 : AS} (hB : BK C) (hR : RB C G) (hl : l ≠ 120) (hi : 0 ≤ i ∧ i < 100) (hdy : C 13 i = dy) (hf0 : Fr wkX wkF C σ0)
    (hv : ∀ s, Fr [122, 123, 124] [] σ0 s → ∀ l', 0 ≤ fct l' → am_M Ln (d + 3) 189 [vR 82, vI l', vI i] s (am_rI fun r s' => r = f (fct l') ∧ s' = s)) : ∀ (r : Nat) (S : Int → Bool) (σ : AS), (r : Int) ≤ C 24 14 → MB (C 24 14) S σ → Fr [122, 123, 124] [] σ0 σ →
    am_E Ln (d + 4) 194 37 [vR 82, vI l, vI la, vI i, vI t, vI ((r : Int) - 1), vU] [] σ (am_rI fun x σ' => x = fnF C G l la dy t f r S ∧ Fr [122, 123, 124] [] σ0 σ') := by
  intro r
  induction r with
  | zero =>
    intro S σ hr hx hfr
    exact vl_X12_clauseOf_37 _ _ _ _ _ _ ⟨fun _ => ⟨rfl, hfr⟩, fun h => absurd (by omega) h⟩
  | succ r ih =>
    intro S σ hr hx hfr
    have fC : Fr wkX wkF C σ := hf0.tr (hfr.mo (by decide) (by decide))
    have hR1 := hR.1
    obtain ⟨⟨⟨r96, r97, r98, r99, r100⟩, n0, n12⟩, hcl⟩ := hR.2 r (by omega) (by omega)
    have e0 : ((r + 1 : Nat) : Int) - 1 = r := by omega
    rw [e0]
    obtain ⟨n, hn⟩ : ∃ n : Nat, C 29 r = n := ⟨(C 29 r).toNat, by omega⟩
    have rr : 0 ≤ (r : Int) ∧ (r : Int) < 20 := ⟨by omega, by omega⟩
    refine vl_X12_clauseOf_37 _ _ _ _ _ _ ⟨fun h => absurd h (by omega), fun _ => ⟨hi, ?_⟩⟩
    rw [fC.cell 90 (by decide), hB.1.2.2.2.2.2.2.1, hdy]
    refine cI (P := fun x s => x = (if infF C la dy t r = true then 1 else 0) ∧ s = σ) ?_ ?_
    · refine vm_X12_isAmong _ _ _ _ _ ⟨rr, ?_⟩
      rw [fC.cell 96 (by decide), fC.cell 97 (by decide), fC.cell 98 (by decide), fC.cell 99 (by decide), r96, r97, r98, r99]
      unfold infF
      refine ⟨fun h1 => ⟨rr, fun h2 => ⟨am_b0, ?_, rfl⟩, fun h2 => ⟨rr, rr, cI sp_mlies ?_⟩⟩, fun h1 => ⟨am_b0, ?_, rfl⟩⟩
      · rw [decide_eq_false (by omega)]; rfl
      · rintro x s ⟨hx1, rfl⟩
        refine ⟨fun h3 => ⟨am_b0, ?_, rfl⟩, fun h3 => ⟨am_b1, ?_, rfl⟩⟩
        · rw [decide_eq_false (fun z => by rw [if_pos ⟨z.2.2.1, z.2.2.2⟩] at hx1; omega)]; rfl
        · have hz : C 26 r ≤ dy ∧ dy ≤ C 27 r := by
            by_cases z : C 26 r ≤ dy ∧ dy ≤ C 27 r
            · exact z
            · rw [if_neg z] at hx1; exact absurd hx1 h3
          rw [decide_eq_true ⟨by omega, h1, hz.1, hz.2⟩]; rfl
      · rw [decide_eq_false (fun z => h1 z.2.1)]; rfl
    · rintro x s ⟨hx1, rfl⟩
      refine ⟨fun hz => ?_, fun hz => ?_⟩
      · have hi2 : infF C la dy t r = false := by
          by_cases z : infF C la dy t r = true
          · rw [if_pos z] at hx1; omega
          · simpa using z
        rw [w32_id (by omega) (by omega), fnF, if_neg (by rw [hi2]; decide)]
        exact ih S s (by omega) hx hfr
      · have hi2 : infF C la dy t r = true := by
          by_cases z : infF C la dy t r = true
          · exact z
          · rw [if_neg z] at hx1; exact absurd hx1 hz
        rw [fnF, if_pos hi2, hn, w32_id (x := 12 * (r : Int)) (by omega) (by omega), show ((n : Int).toNat) = n by omega]
        have k0 : ∀ (τ : AS), MB (C 24 14) (xsF C r S n) τ → Fr [122, 123, 124] [] σ0 τ → am_E Ln (d + 4) 194 159 [vR 82, vI l, vI la, vI i, vI t, vI (r : Int), vI (12 * (r : Int))] [] τ (am_rI fun x σ' => x = orE (fcF C G l f S r n 0) (fnF C G l la dy t f r (xsF C r S n)) ∧ Fr [122, 123, 124] [] σ0 σ') := by
          intro τ h1 h2
          have key := lp_clause159 (d := d) (la := la) (t := t) (i := i) (f := f) (S := S) (S' := xsF C r S n) (R := fnF C G l la dy t f r (xsF C r S n)) hB hR (by omega) hl hf0 hn (fun c hc => xsF_own hc (fun k a b h => (((hcl (12 * r + k) (by omega) (by omega)).2.1 h).2.2).2)) hv (fun ρ g1 g2 => ih _ ρ (by omega) g1 g2) n 0 τ (by omega) h1 h2
          rw [show 12 * (r : Int) + ((0 : Nat) : Int) = 12 * (r : Int) by omega] at key
          exact key
        have key := lp_clause70 (d := d + 4) (l := l) (la := la) (t := t) (i := i) (S := S) hB hR (by omega) hf0 hn k0 n 0 s (by omega) hx hfr
        rw [show 12 * (r : Int) + ((0 : Nat) : Int) = 12 * (r : Int) by omega] at key
        exact key
theorem ruM_find {n : Nat} (hB : BK C) (hR : RB C G) (hn : C 1 11 = n) (hn2 : n ≤ 10) : ruM Ln n C (findF C G) := by
  intro d σ m k l la i t hl hf hr hm hmn hlv
  have hl2 : l ≠ 120 := by omega
  obtain ⟨R, hRR⟩ : ∃ R : Nat, C 24 14 = R := ⟨(C 24 14).toNat, by have := hR.1; omega⟩
  have hR1 := hR.1
  have b7 : C 82 7 = C 24 14 := hB.2.2.2.2.2.2.2.2.1
  have e7 : ∀ g, zc σ 124 g 82 7 = R := fun g => by rw [zc_ne (by decide), hf.fld 82 7 (by decide), b7, hRR]
  have fin : ∀ σ', Fr [124] [] σ σ' → MB (C 24 14) (fun _ => false) σ' → am_E Ln (d + 4) 194 37 [vR 82, vI l, vI la, vI i, vI t, vI ((R : Int) - 1), vU] [] σ' (am_rI fun r σ' => r = findF C G l la (C 13 i) t (facF C i (m.1 (C 9 i))) ∧ (-1 ≤ r ∧ r < 240) ∧ (l = 119 → r ≠ -1 → C 102 r = C 31 r ∧ 0 ≤ C 31 r ∧ C 31 r ≤ 4) ∧ Fr [122, 123, 124] [] σ σ') := by
    intro σ' h1 h2
    have f1 : Fr wkX wkF C σ' := hf.tr (h1.mo (by decide) (by decide))
    refine am_EI (lp_clause37 (d := d) (la := la) (t := t) (f := facF C i (m.1 (C 9 i))) (dy := C 13 i) hB hR hl2 hlv.1 rfl f1 (fun s hs l' hl' => ?_) R (fun _ => false) σ' (by omega) h2 Fr.rf) ?_
    · exact sp_valueOf hB hlv (f1.tr (hs.mo (by decide) (by decide))) hn hn2 (RM_fr (RM_fr hr h1 (by decide)) hs (by decide)) hm hmn hl'
    · rintro x s ⟨g1, g2⟩
      have hb := fnF_bd (l := l) (la := la) (dy := C 13 i) (t := t) (f := facF C i (m.1 (C 9 i))) hR R (fun _ => false) (by omega)
      have e : findF C G l la (C 13 i) t (facF C i (m.1 (C 9 i))) = x := by
        unfold findF
        rw [hRR, g1]
        rfl
      rw [← g1] at hb
      exact ⟨e.symm, hb.1, hb.2, (h1.mo (by decide) (by decide)).tr g2⟩
  have loop : ∀ (q j : Nat) (g : Int → Int), j + q = 12 * R → (∀ c : Int, 0 ≤ c → c < j → g c = 0) → am_E Ln (d + 4) 194 3 [vR 82, vI l, vI la, vI i, vI t, vI (j : Int), vU] [] (zc σ 124 g) (am_rI fun r σ' => r = findF C G l la (C 13 i) t (facF C i (m.1 (C 9 i))) ∧ (-1 ≤ r ∧ r < 240) ∧ (l = 119 → r ≠ -1 → C 102 r = C 31 r ∧ 0 ≤ C 31 r ∧ C 31 r ≤ 4) ∧ Fr [122, 123, 124] [] σ σ') := by
    intro q
    induction q with
    | zero =>
      intro j g hj hg
      refine vl_X12_clauseOf_3 _ _ _ _ _ _ ⟨fun _ => ?_, fun h => absurd ?_ h⟩
      · rw [e7, w32_id (by omega) (by omega)]
        exact fin _ (Fr.cl Fr.rf (by decide)) (fun c a b => by rw [zc_eq]; exact hg c a (by omega))
      · rw [e7, w32_id (by omega) (by omega)]; omega
    | succ q ih =>
      intro j g hj hg
      refine vl_X12_clauseOf_3 _ _ _ _ _ _ ⟨fun h => absurd h ?_, fun _ => ⟨⟨by omega, by omega⟩, ?_⟩⟩
      · rw [e7, w32_id (by omega) (by omega)]; omega
      · rw [up_zcs, bAnd01, w32_id (by omega) (by omega)]
        exact ih (j + 1) (fu g j 0) (by omega) (fun c a b => by
          by_cases e : c = j
          · rw [e, fu_eq]
          · rw [fu_ne e]; exact hg c a (by omega))
  have key := loop (12 * R) 0 (σ 124) (by omega) (fun c a b => by omega)
  rw [zc_self] at key
  exact vm_X12_clauseOf _ _ _ _ _ key
end MF
