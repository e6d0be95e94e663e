/-! choose, count -/
theorem cn0_bd {w : Int → Int} : ∀ n : Nat, 0 ≤ cn0 w n ∧ cn0 w n ≤ n
  | 0 => ⟨Int.le_refl 0, Int.le_refl 0⟩
  | n + 1 => by
    have := cn0_bd (w := w) n
    rw [cn0]
    split <;> omega
theorem cn0_congr {f g : Int → Int} : ∀ {n : Nat}, (∀ i : Int, 0 ≤ i → i < n → f i = g i) → cn0 f n = cn0 g n
  | 0, _ => rfl
  | n + 1, h => by rw [cn0, cn0, cn0_congr (fun i a b => h i a (by omega)), h n (by omega) (by omega)]
theorem cn0_short {f : Int → Int} {k : Nat} : ∀ {n : Nat}, k ≤ n → (∀ i : Int, k ≤ i → i < n → f i = 0) → cn0 f n = cn0 f k
  | 0, h, _ => by rw [show k = 0 by omega]
  | n + 1, h, h0 => by
    by_cases e : k = n + 1
    · rw [e]
    · rw [cn0, h0 n (by omega) (by omega), cn0_short (k := k) (n := n) (by omega) (fun i a b => h0 i a (by omega)), if_pos rfl, Int.add_zero]
theorem cn0_fu {f : Int → Int} {h v : Int} : ∀ {n : Nat}, 0 ≤ h → h < n → cn0 (fu f h v) n = cn0 f n - (if f h = 0 then 0 else 1) + (if v = 0 then 0 else 1)
  | 0, _, b => absurd b (by omega)
  | n + 1, a, b => by
    rw [cn0, cn0]
    by_cases e : h = n
    · have e1 : cn0 (fu f h v) n = cn0 f n := cn0_congr (fun i x y => fu_ne (by omega))
      rw [e1, e, fu_eq]
      omega
    · rw [cn0_fu a (by omega), fu_ne (fun q => e q.symm)]
      omega
section UP
variable {Ln : Int} {σ : AS} {n : Nat} {G : Int → GF}
theorem sp_choosing {d : Nat} {s : AS} (hI : INV σ n G) (hf : Fr wkX wkF σ s) : am_M Ln (d + 1) 223 [vR 82] s (am_rI fun r s' => r = σ 70 4 ∧ s' = s) := by
  obtain ⟨h1, h2, h3, h4, h5, h6, h7, h8⟩ := hI
  have hP := h4.2.1
  have e4 : s 82 4 = σ 4 2 := by rw [hf.fld 82 4 (by decide)]; exact h1.1.2.2.2.2.2.1
  have e129 : s 129 = σ 71 := by rw [hf.cell 129 (by decide), h6.1]
  obtain ⟨N, hN⟩ : ∃ N : Nat, σ 4 2 = N := ⟨(σ 4 2).toNat, by omega⟩
  have key : σ 70 4 = cn0 (σ 71) N := by
    rw [h6.2.2.1]
    exact cn0_short (by omega) (fun i a b => (h6.2.1 i (by omega) (by omega)).2 (by omega))
  have loop : ∀ (q j : Nat), j + q = N → am_E Ln d 223 4 [vR 82, vI (cn0 (σ 71) j), vI (j : Int)] [] s (am_rI fun r s' => r = σ 70 4 ∧ s' = s) := by
    intro q
    induction q with
    | zero =>
      intro j hj
      obtain rfl : j = N := by omega
      exact vl_X12_choosing_4 _ _ _ ⟨fun _ => ⟨key.symm, rfl⟩, fun h => absurd (by omega) h⟩
    | succ q ih =>
      intro j hj
      have hb := cn0_bd (w := σ 71) j
      have kk := ih (j + 1) (by omega)
      rw [cn0, show ((j + 1 : Nat) : Int) = (j : Int) + 1 by omega] at kk
      refine vl_X12_choosing_4 _ _ _ ⟨fun h => absurd h (by omega), fun _ => ⟨⟨by omega, by omega⟩, ?_⟩⟩
      rw [e129, w32_id (x := cn0 (σ 71) j + 0) (by omega) (by omega), w32_id (x := cn0 (σ 71) j + 1) (by omega) (by omega), w32_id (x := (j : Int) + 1) (by omega) (by omega)]
      refine ⟨fun e => ?_, fun e => ?_⟩
      · rw [if_pos e] at kk; exact kk
      · rw [if_neg e] at kk; exact kk
  exact vm_X12_choosing _ (loop N 0 (by omega))
theorem pr_choose (hI : INV σ n G) (p w : Int) : PR Ln 112 [vR 1, vI p, vI w] 224 [vR 82, vI p, vI w] σ := by
  obtain ⟨h1, h2, h3, h4, h5, h6, h7, h8⟩ := id hI
  have hB := h1.1
  have hP := h4.2.1
  obtain ⟨c1, c2, c3, c4⟩ := id h6
  have cb := cn0_bd (w := σ 71) 10
  rw [← c3] at cb
  obtain ⟨o, ho⟩ : ∃ o : Int, o = σ 70 4 - (if σ 71 p = 0 then 0 else 1) := ⟨_, rfl⟩
  obtain ⟨ρ, hρ⟩ : ∃ ρ, ρ = am_up (am_up σ 71 p w) 70 4 (o + (if w = 0 then 0 else 1)) := ⟨_, rfl⟩
  obtain ⟨τ, hτ⟩ : ∃ τ, τ = am_up ρ 129 p w := ⟨_, rfl⟩
  have fρ : Fr [71] [(70, 4)] σ ρ := by rw [hρ]; exact Fr.up (Fr.up Fr.rf (Or.inl (by decide))) (Or.inr (by decide))
  have fτ : Fr [71, 129] [(70, 4)] σ τ := by rw [hτ]; exact Fr.up (fρ.mo (by decide) (by decide)) (Or.inl (by decide))
  have t71 : τ 71 = fu (σ 71) p w := by rw [hτ, am_up_ne (by decide), hρ, am_up_ne (by decide), up_zc, zc_eq]
  have t129 : τ 129 = fu (σ 71) p w := by rw [hτ, up_zc, zc_eq, fρ.cell 129 (by decide), c1]
  have t704 : τ 70 4 = o + (if w = 0 then 0 else 1) := by rw [hτ, am_up_ne (by decide), hρ, am_up_eq, if_pos rfl]
  have fw : Fr wkX wkF σ σ := Fr.rf
  refine pr_up (c := (0 ≤ p ∧ p < σ 4 2) ∧ (0 ≤ w ∧ w < 32) ∧ (w = 0 ∨ o < 4)) (v := 1) (w := 0) (σu := ρ) (σw := τ) hI (fρ.cell 0 (by decide)) (fτ.cell 0 (by decide)) ?_ (fun hc => ?_) (fun hc => ?_) (fun hc => ⟨n, G, ?_⟩)
  · refine vm_X11_choose _ _ _ (cG sp_cPurse (fun h => ⟨am_b0, upN (fun q => h q.1)⟩) (fun g1 => ⟨fun h => ⟨am_b0, upN (fun q => by omega)⟩, fun g2 => ⟨fun g3 => cI (P := fun r s => am_b r ∧ upF ((0 ≤ p ∧ p < σ 4 2) ∧ (0 ≤ w ∧ w < 32) ∧ (w = 0 ∨ o < 4)) 1 0 σ ρ r s) ?_ (fun r s q => q), fun h => ⟨am_b0, upN (fun q => by omega)⟩⟩⟩))
    have rp : 0 ≤ p ∧ p < 10 := by omega
    refine vm_X0_set _ _ _ ⟨rp, fun e => ?_, fun e => ?_⟩
    · rw [if_pos e] at ho
      rw [w32_id (x := σ 70 4 - 0) (by omega) (by omega), ← ho]
      have yes : ∀ x : Int, x = (if w = 0 then (0 : Int) else 1) → (w = 0 ∨ o < 4) → am_b 1 ∧ am_b 1 ∧ upF ((0 ≤ p ∧ p < σ 4 2) ∧ (0 ≤ w ∧ w < 32) ∧ (w = 0 ∨ o < 4)) 1 0 σ ρ 1 (am_up (am_up σ 71 p w) 70 4 (w32 (o + x))) := by
        intro x hx hy
        rw [hx, w32_id (by split <;> omega) (by split <;> omega), ← hρ]
        exact ⟨am_b1, am_b1, upY ⟨g1, ⟨by omega, g3⟩, hy⟩⟩
      refine ⟨fun z => ⟨rp, fun _ => yes 0 (by rw [if_pos z]) (Or.inl z), fun q => absurd z q⟩, fun z => ⟨fun l => ⟨rp, fun q => absurd q z, fun _ => yes 1 (by rw [if_neg z]) (Or.inr l)⟩, fun l => ⟨am_b0, am_b0, upN (fun q => q.2.2.elim z l)⟩⟩⟩
    · rw [if_neg e] at ho
      have c10 : 0 < σ 70 4 := by
        have := cn0_fu (f := σ 71) (h := p) (v := 0) (n := 10) rp.1 rp.2
        have h2 := cn0_bd (w := fu (σ 71) p 0) 10
        rw [if_neg e, if_pos rfl] at this
        omega
      rw [w32_id (x := σ 70 4 - 1) (by omega) (by omega), ← ho]
      have yes : ∀ x : Int, x = (if w = 0 then (0 : Int) else 1) → (w = 0 ∨ o < 4) → am_b 1 ∧ am_b 1 ∧ upF ((0 ≤ p ∧ p < σ 4 2) ∧ (0 ≤ w ∧ w < 32) ∧ (w = 0 ∨ o < 4)) 1 0 σ ρ 1 (am_up (am_up σ 71 p w) 70 4 (w32 (o + x))) := by
        intro x hx hy
        rw [hx, w32_id (by split <;> omega) (by split <;> omega), ← hρ]
        exact ⟨am_b1, am_b1, upY ⟨g1, ⟨by omega, g3⟩, hy⟩⟩
      refine ⟨fun z => ⟨rp, fun _ => yes 0 (by rw [if_pos z]) (Or.inl z), fun q => absurd z q⟩, fun z => ⟨fun l => ⟨rp, fun q => absurd q z, fun _ => yes 1 (by rw [if_neg z]) (Or.inr l)⟩, fun l => ⟨am_b0, am_b0, upN (fun q => q.2.2.elim z l)⟩⟩⟩
  · have rp : 0 ≤ p ∧ p < 10 := by omega
    have e129 : ρ 129 = σ 71 := by rw [fρ.cell 129 (by decide), c1]
    have e4 : ρ 82 4 = σ 4 2 := by rw [fρ.fld 82 4 (by decide)]; exact hB.2.2.2.2.2.1
    refine vm_X12_choose _ _ _ (cG (c := 0 ≤ p ∧ p < σ 4 2) ?_ (fun h => absurd hc.1 h) (fun _ => cG sp_mlies (fun h => absurd ⟨hc.2.1.1, by omega⟩ h) (fun _ => ⟨fun z => ⟨rp, am_b1, rfl, hτ.symm⟩, fun z => ⟨rp, ?_⟩⟩)))
    · refine sp_mlb (d := 997) (a := p) (lo := 0) (hi := σ 4 2 - 1) (by omega) (fun Q h => vm_X12_isPurse _ _ ?_)
      rw [e4, w32_id (by omega) (by omega)]
      exact h
    · rw [e129]
      refine ⟨fun e => ?_, fun e => ⟨rp, am_b1, rfl, hτ.symm⟩⟩
      rw [if_pos e] at ho
      -- the model counts what the class has kept, ahead of it
      have cnt : am_M Ln 999 223 [vR 82] ρ (am_rI fun r s' => r = σ 70 4 ∧ s' = ρ) := by
        obtain ⟨N, hN⟩ : ∃ N : Nat, σ 4 2 = N := ⟨(σ 4 2).toNat, by omega⟩
        have key : σ 70 4 = cn0 (σ 71) N := by
          rw [c3]
          exact cn0_short (by omega) (fun i a b => (c2 i (by omega) (by omega)).2 (by omega))
        have loop : ∀ (q j : Nat), j + q = N → am_E Ln 998 223 4 [vR 82, vI (cn0 (σ 71) j), vI (j : Int)] [] ρ (am_rI fun r s' => r = σ 70 4 ∧ s' = ρ) := by
          intro q
          induction q with
          | zero =>
            intro j hj
            obtain rfl : j = N := by omega
            exact vl_X12_choosing_4 _ _ _ ⟨fun _ => ⟨key.symm, rfl⟩, fun h => absurd (by omega) h⟩
          | succ q ih =>
            intro j hj
            have hb := cn0_bd (w := σ 71) j
            have kk := ih (j + 1) (by omega)
            rw [cn0, show ((j + 1 : Nat) : Int) = (j : Int) + 1 by omega] at kk
            refine vl_X12_choosing_4 _ _ _ ⟨fun h => absurd h (by omega), fun _ => ⟨⟨by omega, by omega⟩, ?_⟩⟩
            rw [e129, w32_id (x := cn0 (σ 71) j + 0) (by omega) (by omega), w32_id (x := cn0 (σ 71) j + 1) (by omega) (by omega), w32_id (x := (j : Int) + 1) (by omega) (by omega)]
            refine ⟨fun e => ?_, fun e => ?_⟩
            · rw [if_pos e] at kk; exact kk
            · rw [if_neg e] at kk; exact kk
        exact vm_X12_choosing _ (loop N 0 (by omega))
      refine cI cnt ?_
      rintro r s ⟨rfl, rfl⟩
      exact ⟨fun q => absurd hc.2.2 (by omega), fun _ => ⟨rp, am_b1, rfl, hτ.symm⟩⟩
  · refine vm_X12_choose _ _ _ (cG (sp_mPurse hB fw (by omega)) (fun h => ⟨am_b0, rfl, rfl⟩) (fun g1 => cG sp_mlies (fun h => ⟨am_b0, rfl, rfl⟩) (fun g2 => ⟨fun z => absurd ⟨g1, by omega, Or.inl z⟩ hc, fun z => ⟨by omega, ?_⟩⟩)))
    rw [c1]
    refine ⟨fun e => cI (sp_choosing hI fw) ?_, fun e => ?_⟩
    · rintro r s ⟨rfl, rfl⟩
      rw [if_pos e] at ho
      exact ⟨fun _ => ⟨am_b0, rfl, rfl⟩, fun q => absurd ⟨g1, by omega, Or.inr (by omega)⟩ hc⟩
    · rw [if_neg e] at ho
      exact absurd ⟨g1, by omega, Or.inr (by omega)⟩ hc
  · have rp : 0 ≤ p ∧ p < 10 := by omega
    have hfu := cn0_fu (f := σ 71) (h := p) (v := w) (n := 10) rp.1 rp.2
    refine ⟨OKB_up h1 (BK_up [] [] h1.1 fτ (by decide) (by decide) no_mem no_mem) (by rw [fτ.fld 1 11 (by decide)]; exact h1.2.1) (Nat.le_refl n) h1.2.2.1 (by rw [fτ.fld 19 4 (by decide)]; exact h1.2.2.2.1) (fτ.fld 7 11 (by decide)) (fτ.cs _ (by decide)) (by rw [fτ.cell 5 (by decide)]; exact OKB_5 h1), OKD_cg (fτ.cell 13 (by decide)) (fτ.fld 7 11 (by decide)) h2, RB_cg (fτ.cs RBC (by decide)) (fτ.fld 24 14 (by decide)) h3, NU_cg (fτ.cell 5 (by decide)) (fτ.cell 121 (by decide)) (fτ.fls _ (by decide)) h4, TP_cg (fτ.cell 3 (by decide)) (fτ.cell 83 (by decide)) (fτ.fld 2 1 (by decide)) h5, ?_, BA_cg (fτ.cs BAC (by decide)) (fτ.fld 70 6 (by decide)) h7, DE_cg (fτ.cs DEC (by decide)) (fτ.fld 76 3 (by decide)) h8.1, TH_cg (fτ.fld 7 11 (by decide)) (Int.le_of_eq (fτ.fld 1 12 (by decide)).symm) (fτ.cell 8 (by decide)) (fτ.cell 10 (by decide)) (fτ.cell 14 (by decide)) (fτ.cell 15 (by decide)) h8.2⟩
    unfold CH
    rw [t71, t129, t704, fτ.fld 4 2 (by decide), hfu, ← c3, ho]
    refine ⟨rfl, fun q u v => ?_, rfl, ?_⟩
    · unfold fu
      split
      · exact ⟨hc.2.1, fun h => absurd h (by omega)⟩
      · exact c2 q u v
    · rw [← ho]
      rcases hc.2.2 with z | z
      · rw [if_pos z, ho]; split <;> omega
      · split <;> omega
theorem pr_count (hI : INV σ n G) (w : Int) (hw : -2147483648 ≤ w ∧ w < 2147483648) : PR Ln 121 [vR 1, vI w] 244 [vR 82, vI w] σ := by
  have hB := hI.1.1
  obtain ⟨-, -, f1, f2, f3, f4, f5, f6, f7, f8, f9, f10⟩ := id hB
  obtain ⟨R0, Rr⟩ := hI.2.2.1
  refine pr_ans (c := True) (v := if w = 0 then σ 1 10 else if w = 1 then σ 1 11 else if w = 2 then σ 4 2 else if w = 3 then σ 1 12 else if w = 4 then σ 7 11 else if w = 5 then σ 24 14 else if w = 6 then σ 19 4 else if w = 7 then σ 76 3 else if w = 8 then σ 2 1 else if w = 9 then σ 70 4 else if w = 10 then σ 70 6 else if 20 ≤ w ∧ w < 20 + σ 24 14 then σ 29 (w - 20) else -1) (w := -1) (cs := []) (fs := []) (cs' := []) (fs' := []) hI ?_ (fun s hs => ?_) (by decide) (by decide)
  · refine vm_X11_count _ _ ⟨fun e => ansY trivial ?_ Fr.rf, fun e => ansY trivial ?_ Fr.rf, fun e => ansY trivial ?_ Fr.rf, fun e => ansY trivial ?_ Fr.rf, fun e => ansY trivial ?_ Fr.rf, fun e => ansY trivial ?_ Fr.rf, fun e => ansY trivial ?_ Fr.rf, fun e => ansY trivial ?_ Fr.rf, fun e => ansY trivial ?_ Fr.rf, fun e => ansY trivial ?_ Fr.rf, fun e => ansY trivial ?_ Fr.rf, fun e => ?_, trivial⟩
    · rw [e]; simp
    · rw [e]; simp
    · rw [e]; simp
    · rw [e]; simp
    · rw [e]; simp
    · rw [e]; simp
    · rw [e]; simp
    · rw [e]; simp
    · rw [e]; simp
    · rw [e]; simp
    · rw [e]; simp
    · refine cI (P := fun r s => r = (if 20 ≤ w ∧ w < 20 + σ 24 14 then σ 29 (w - 20) else -1) ∧ s = σ) ?_ ?_
      · refine vm_X7_clausesOf _ _ ⟨fun h => ⟨fun _ => ⟨by rw [if_neg (by omega)], rfl⟩, fun q => absurd rfl q⟩, fun h => ?_⟩
        rw [w32_id (x := 20 + σ 24 14) (by omega) (by omega), w32_id (x := w - 20) (by omega) (by omega)]
        exact ⟨fun h2 => ⟨fun _ => ⟨by rw [if_neg (by omega)], rfl⟩, fun q => absurd rfl q⟩, fun h2 => ⟨fun q => absurd q (by decide), fun _ => ⟨⟨by omega, by omega⟩, by rw [if_pos (by omega)], rfl⟩⟩⟩
      · rintro r s ⟨h1, rfl⟩
        refine ansY trivial ?_ Fr.rf
        rw [h1, if_neg (c := w = 0) (by omega), if_neg (c := w = 1) (by omega), if_neg (c := w = 2) (by omega), if_neg (c := w = 3) (by omega), if_neg (c := w = 4) (by omega), if_neg (c := w = 5) (by omega), if_neg (c := w = 6) (by omega), if_neg (c := w = 7) (by omega), if_neg (c := w = 8) (by omega), if_neg (c := w = 9) (by omega), if_neg (c := w = 10) (by omega)]
  · obtain rfl : s = σ := by
      funext c j
      exact hs c j (by simp) (by simp)
    refine vm_X12_count _ _ ?_
    rw [f7, w32_id (x := 19 + s 24 14) (by omega) (by omega)]
    refine cG sp_mlies (fun h => ?_) (fun h => ?_)
    · rw [f2, f3, f4, f5, f6, f7, f8, f9, f1, f10]
      refine ⟨fun e => ansY trivial ?_ Fr.rf, fun e => ansY trivial ?_ Fr.rf, fun e => ansY trivial ?_ Fr.rf, fun e => ansY trivial ?_ Fr.rf, fun e => ansY trivial ?_ Fr.rf, fun e => ansY trivial ?_ Fr.rf, fun e => ansY trivial ?_ Fr.rf, fun e => ansY trivial ?_ Fr.rf, fun e => ansY trivial ?_ Fr.rf, fun e => cI (sp_choosing hI Fr.rf) ?_, fun e => ansY trivial ?_ Fr.rf, fun e => ansY trivial ?_ Fr.rf, trivial⟩
      · rw [e]; simp
      · rw [e]; simp
      · rw [e]; simp
      · rw [e]; simp
      · rw [e]; simp
      · rw [e]; simp
      · rw [e]; simp
      · rw [e]; simp
      · rw [e]; simp
      · rintro r s ⟨rfl, rfl⟩
        refine ansY trivial ?_ Fr.rf
        rw [e]; simp
      · rw [e]; simp
      · rw [if_neg (c := w = 0) (by omega), if_neg (c := w = 1) (by omega), if_neg (c := w = 2) (by omega), if_neg (c := w = 3) (by omega), if_neg (c := w = 4) (by omega), if_neg (c := w = 5) (by omega), if_neg (c := w = 6) (by omega), if_neg (c := w = 7) (by omega), if_neg (c := w = 8) (by omega), if_neg (c := w = 9) (by omega), if_neg (c := w = 10) (by omega), if_neg (by omega)]
    · rw [w32_id (x := w - 20) (by omega) (by omega)]
      refine ⟨⟨by omega, by omega⟩, ansY trivial ?_ Fr.rf⟩
      rw [if_neg (c := w = 0) (by omega), if_neg (c := w = 1) (by omega), if_neg (c := w = 2) (by omega), if_neg (c := w = 3) (by omega), if_neg (c := w = 4) (by omega), if_neg (c := w = 5) (by omega), if_neg (c := w = 6) (by omega), if_neg (c := w = 7) (by omega), if_neg (c := w = 8) (by omega), if_neg (c := w = 9) (by omega), if_neg (c := w = 10) (by omega), if_pos (by omega)]
      exact (Rr (w - 20) (by omega) (by omega)).1.1.2.2.2.2
end UP
