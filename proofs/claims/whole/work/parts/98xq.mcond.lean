/-! the model reads pieces, parts, conditions -/
section MQ
variable {Ln : Int} {d : Nat} {ch : Int → Int} {n r c0 : Int} {σ0 : AS} {Qc : Option AV → AS → Prop}
def ntg : Nat → GF → GF
  | 0, g => g
  | b + 1, g => ntg b (notg g)
def rpN (b : Nat) : List (Int × Int) := List.replicate b (2, 0)
theorem SM_nots {N : Int} : ∀ (b : Nat) {m : List (Int × Int)} {g : GF}, SM m N g → SM (m ++ rpN b) N (ntg b g)
  | 0, m, g, h => by
    rw [show rpN 0 = [] from rfl, List.append_nil]
    exact h
  | b + 1, m, g, h => by
    have := SM_nots b (SM_not (a := 0) h)
    rw [List.append_assoc] at this
    exact this
theorem BO_nots : ∀ (b : Nat) {g : GF}, BO g → BO (ntg b g)
  | 0, _, h => h
  | b + 1, _, h => BO_nots b (BO_not h)
def PIECEM (Ln : Int) (d : Nat) (ch : Int → Int) (n r c0 : Int) (σ0 : AS) (Qc : Option AV → AS → Prop) (k : Nat) : Prop := ∀ (b : Nat) (S0 : List Int) (m : List (Int × Int)) (q bh : Int) (σ : AS), MPr r c0 q (6 - k) bh (List.replicate b 33 ++ S0) m σ0 σ → (S0.headD 0 = 40 ∨ S0.headD 0 = 38 ∨ S0.headD 0 = 124) → (b : Int) ≤ 6 - k → 0 ≤ q → q ≤ n → (∀ e, pPiece ch n k q = .inl e → KB r c0 σ0 Qc e) → (∀ x, pPiece ch n k q = .inr x → ¬ (ch x.1 = 38 ∨ ch x.1 = 124 ∨ ch x.1 = 41) → KB r c0 σ0 Qc (1, x.1)) →
  (∀ x m1 s bh', pPiece ch n k q = .inr x → SM (m1 ++ rpN b) (2 * k + 4) (ntg b x.2) → MPr r c0 x.1 (6 - k - b) bh' S0 (m ++ (m1 ++ rpN b)) σ0 s → BHC Ln d Qc s) → PH Ln d Qc σ
def CONDM (Ln : Int) (d : Nat) (ch : Int → Int) (n r c0 : Int) (σ0 : AS) (Qc : Option AV → AS → Prop) (k : Nat) : Prop := ∀ (Sx : List Int) (m : List (Int × Int)) (q bh : Int) (σ : AS), MPr r c0 q (6 - k) bh (40 :: Sx) m σ0 σ → 0 ≤ q → q ≤ n → (∀ e, pCond ch n (pPiece ch n k) q = .inl e → KB r c0 σ0 Qc e) → (∀ x, pCond ch n (pPiece ch n k) q = .inr x → ch x.1 ≠ 41 → KB r c0 σ0 Qc (1, x.1)) →
  (∀ x pe m1 s bh', pCond ch n (pPiece ch n k) q = .inr x → ch x.1 = 41 → SM (m1 ++ jc pe) (2 * k + 6) x.2 → (∀ c ∈ pe, anI c) → MPr r c0 x.1 (6 - k) bh' (pe ++ 40 :: Sx) (m ++ m1) σ0 s → BHC Ln d Qc s) → PH Ln d Qc σ
/-- parts of a condition -/
theorem aloop (hG : CG ch n (160 * r)) (hT : MTp ch n r σ0) (hr : 0 ≤ r ∧ r < 20) (hc : 0 ≤ c0) {k : Nat} (hk : k ≤ 5) (hP : PIECEM Ln d ch n r c0 σ0 Qc k) {S : List Int} (hS : S.headD 0 = 40 ∨ S.headD 0 = 124) : ∀ (fu : Nat) (q : Int) (g : GF) (pt : List Int) (m m1 : List (Int × Int)) (bh : Int) (σ : AS), (n - q).toNat ≤ fu → 0 ≤ q → q ≤ n → MPr r c0 q (6 - k) bh (pt ++ S) (m ++ m1) σ0 σ → (∀ c ∈ pt, c = 38) → SM (m1 ++ jc pt) (2 * k + 5) g → BO g →
    (∀ e, opLoop ch isA (pPiece ch n k) (fun _ => andg) fu q g = .inl e → KB r c0 σ0 Qc e) → (∀ x, opLoop ch isA (pPiece ch n k) (fun _ => andg) fu q g = .inr x → ¬ (ch x.1 = 124 ∨ ch x.1 = 41) → KB r c0 σ0 Qc (1, x.1)) → (∀ x pt' m1' s bh', opLoop ch isA (pPiece ch n k) (fun _ => andg) fu q g = .inr x → SM (m1' ++ jc pt') (2 * k + 5) x.2 → BO x.2 → (∀ c ∈ pt', c = 38) → MPr r c0 x.1 (6 - k) bh' (pt' ++ S) (m ++ m1') σ0 s → BHC Ln d Qc s) → BHC Ln d Qc σ := by
  intro fu
  induction fu with
  | zero =>
    intro q g pt m m1 bh σ hm hq hqn h hpt hsm hbo he hx hK
    exact hK (q, g) pt m1 σ bh rfl hsm hbo hpt h
  | succ fu ih =>
    intro q g pt m m1 bh σ hm hq hqn h hpt hsm hbo he hx hK
    rw [opLoop] at he hx hK
    by_cases e : isA (ch q) = true
    · rw [if_pos e] at he hx hK
      have hcq : ch q = 38 := of_decide_eq_true e
      have hlt := ch_lt hG.1 hcq (by decide)
      refine gb_A hG hT hr hc h ⟨hq, hqn⟩ hpt (by omega) hcq (fun s2 hs2 => ?_)
      refine hP 0 (38 :: S) _ (q + 1) bh s2 (by rw [List.replicate_zero, List.nil_append]; exact hs2) (Or.inr (Or.inl rfl)) (by omega) (by omega) (by omega) (fun e1 h1 => he e1 (by rw [h1])) (fun y h3 hny => ?_) (fun y mf s3 bh3 h3 hsm3 hs3 => ?_)
      · have hg := gd_piece hG.1 (n := n) k (q + 1) (by omega) (by omega)
        rw [h3] at hx hg
        refine hx (y.1, andg g y.2) ?_ (fun z => hny (by rcases z with z | z; exact Or.inr (Or.inl z); exact Or.inr (Or.inr z)))
        exact opLoop_no (decide_eq_false (fun z => hny (Or.inl z)))
      · rw [h3] at he hx hK
        have hg := gd_piece hG.1 (n := n) k (q + 1) (by omega) (by omega)
        rw [h3] at hg
        have hy := hg.1
        rw [show rpN 0 = [] from rfl, List.append_nil] at hsm3 hs3
        refine ih y.1 _ [38] m ((m1 ++ jc pt) ++ mf) bh3 s3 (by omega) (by omega) hy.2 ?_ (fun c hc => List.mem_singleton.mp hc) ?_ (BO_and hbo hg.2) he hx hK
        · rw [show (6 - (k : Int) - ((0 : Nat) : Int)) = 6 - k by omega] at hs3
          have e2 : m ++ (m1 ++ jc pt ++ mf) = m ++ m1 ++ jc pt ++ mf := by
            rw [List.append_assoc, List.append_assoc, List.append_assoc]
          rw [e2]
          exact hs3
        · have := SM_and (a := 0) hsm hsm3 hbo
          rw [show max (2 * (k : Int) + 5) (2 * k + 4 + 1) = 2 * k + 5 by omega] at this
          exact this
    · rw [if_neg e] at he hx hK
      exact hK (q, g) pt m1 σ bh rfl hsm hbo hpt h
theorem tpart (hG : CG ch n (160 * r)) (hT : MTp ch n r σ0) (hr : 0 ≤ r ∧ r < 20) (hc : 0 ≤ c0) {k : Nat} (hk : k ≤ 5) (hP : PIECEM Ln d ch n r c0 σ0 Qc k) {S : List Int} (hS : S.headD 0 = 40 ∨ S.headD 0 = 124) {m : List (Int × Int)} {q bh : Int} {σ : AS} (h : MPr r c0 q (6 - k) bh S m σ0 σ) (hq : 0 ≤ q) (hqn : q ≤ n) (he : ∀ e, pPart ch n (pPiece ch n k) q = .inl e → KB r c0 σ0 Qc e) (hx : ∀ x, pPart ch n (pPiece ch n k) q = .inr x → ¬ (ch x.1 = 124 ∨ ch x.1 = 41) → KB r c0 σ0 Qc (1, x.1)) (hK : ∀ x pt m1 s bh', pPart ch n (pPiece ch n k) q = .inr x → SM (m1 ++ jc pt) (2 * k + 5) x.2 → BO x.2 → (∀ c ∈ pt, c = 38) → MPr r c0 x.1 (6 - k) bh' (pt ++ S) (m ++ m1) σ0 s → BHC Ln d Qc s) : PH Ln d Qc σ := by
  unfold pPart opSeq at he hx hK
  refine hP 0 S m q bh σ (by rw [List.replicate_zero, List.nil_append]; exact h) (by rcases hS with z | z; exact Or.inl z; exact Or.inr (Or.inr z)) (by omega) hq hqn (fun e1 h1 => he e1 (by rw [h1])) (fun y h3 hny => ?_) (fun y mf s3 bh3 h3 hsm3 hs3 => ?_)
  · rw [h3] at hx
    exact hx y (opLoop_no (decide_eq_false (fun z => hny (Or.inl z)))) (fun z => hny (Or.inr z))
  · rw [h3] at he hx hK
    have hg := gd_piece hG.1 (n := n) k q hq hqn
    rw [h3] at hg
    have hy := hg.1
    rw [show rpN 0 = [] from rfl, List.append_nil] at hsm3 hs3
    rw [show (6 - (k : Int) - ((0 : Nat) : Int)) = 6 - k by omega] at hs3
    refine aloop hG hT hr hc hk hP hS (n - y.1).toNat y.1 y.2 [] m mf bh3 s3 (Nat.le_refl _) (by omega) hy.2 hs3 (fun c hc => by cases hc) ?_ hg.2 he hx hK
    show SM (mf ++ []) _ _
    rw [List.append_nil]
    exact SM_mono hsm3 (by omega)
theorem oloop (hG : CG ch n (160 * r)) (hT : MTp ch n r σ0) (hr : 0 ≤ r ∧ r < 20) (hc : 0 ≤ c0) {k : Nat} (hk : k ≤ 5) (hP : PIECEM Ln d ch n r c0 σ0 Qc k) {Sx : List Int} : ∀ (fu : Nat) (q : Int) (g : GF) (pe : List Int) (m m1 : List (Int × Int)) (bh : Int) (σ : AS), (n - q).toNat ≤ fu → 0 ≤ q → q ≤ n → MPr r c0 q (6 - k) bh (pe ++ 40 :: Sx) (m ++ m1) σ0 σ → (∀ c ∈ pe, anI c) → SM (m1 ++ jc pe) (2 * k + 6) g → BO g → ch q ≠ 38 →
    (∀ e, opLoop ch isO (pPart ch n (pPiece ch n k)) (fun _ => org) fu q g = .inl e → KB r c0 σ0 Qc e) → (∀ x, opLoop ch isO (pPart ch n (pPiece ch n k)) (fun _ => org) fu q g = .inr x → ch x.1 ≠ 41 → KB r c0 σ0 Qc (1, x.1)) → (∀ x pe' m1' s bh', opLoop ch isO (pPart ch n (pPiece ch n k)) (fun _ => org) fu q g = .inr x → ch x.1 = 41 → SM (m1' ++ jc pe') (2 * k + 6) x.2 → (∀ c ∈ pe', anI c) → MPr r c0 x.1 (6 - k) bh' (pe' ++ 40 :: Sx) (m ++ m1') σ0 s → BHC Ln d Qc s) → BHC Ln d Qc σ := by
  have fin : ∀ (q : Int) (g : GF) (pe : List Int) (m m1 : List (Int × Int)) (bh : Int) (σ : AS) (R : Rs), R = .inr (q, g) → 0 ≤ q → q ≤ n → MPr r c0 q (6 - k) bh (pe ++ 40 :: Sx) (m ++ m1) σ0 σ → (∀ c ∈ pe, anI c) → SM (m1 ++ jc pe) (2 * k + 6) g → ch q ≠ 38 → ch q ≠ 124 → (∀ x, R = .inr x → ch x.1 ≠ 41 → KB r c0 σ0 Qc (1, x.1)) → (∀ x pe' m1' s bh', R = .inr x → ch x.1 = 41 → SM (m1' ++ jc pe') (2 * k + 6) x.2 → (∀ c ∈ pe', anI c) → MPr r c0 x.1 (6 - k) bh' (pe' ++ 40 :: Sx) (m ++ m1') σ0 s → BHC Ln d Qc s) → BHC Ln d Qc σ := by
    intro q g pe m m1 bh σ R hR hq hqn h hpe hsm h38 h124 hx hK
    by_cases z : ch q = 41
    · exact hK (q, g) pe m1 σ bh hR z hsm hpe h
    · exact gb_N hG hT h ⟨hq, hqn⟩ h38 h124 z (hx (q, g) hR z)
  intro fu
  induction fu with
  | zero =>
    intro q g pe m m1 bh σ hm hq hqn h hpe hsm hbo h38 he hx hK
    exact fin q g pe m m1 bh σ _ rfl hq hqn h hpe hsm h38 (by rw [hG.1 q (by omega)]; decide) hx hK
  | succ fu ih =>
    intro q g pe m m1 bh σ hm hq hqn h hpe hsm hbo h38 he hx hK
    rw [opLoop] at he hx hK
    by_cases e : isO (ch q) = true
    · rw [if_pos e] at he hx hK
      have hcq : ch q = 124 := of_decide_eq_true e
      have hlt := ch_lt hG.1 hcq (by decide)
      refine gb_O hG hT hr hc h ⟨hq, hqn⟩ hpe (by show (40 : Int) ≠ 38; decide) (by show (40 : Int) ≠ 124; decide) hcq (fun s2 hs2 => ?_)
      refine tpart hG hT hr hc hk hP (S := 124 :: 40 :: Sx) (Or.inr rfl) hs2 (by omega) (by omega) (fun e1 h1 => he e1 (by rw [h1])) (fun y h3 hny => ?_) (fun y pt mt s3 bh3 h3 hsm3 hbo3 hpt hs3 => ?_)
      · rw [h3] at hx
        exact hx (y.1, org g y.2) (opLoop_no (decide_eq_false (fun z => hny (Or.inl z)))) (fun z => hny (Or.inr z))
      · rw [h3] at he hx hK
        have h3' : opSeq ch n isA (pPiece ch n k) (fun _ => andg) (q + 1) = .inr y := h3
        have hg := gd_seq hG.1 (op := isA) (by decide) (gd_piece hG.1 (n := n) k) (cb := fun _ => andg) (fun _ _ _ _ h1 h2 => BO_and h1 h2) (q + 1) (by omega) (by omega)
        rw [h3'] at hg
        have hy := hg.1
        have hnx := nx_seq (P := fun _ => True) hG.1 (op := isA) (by decide) (gd_piece hG.1 (n := n) k) (fun _ _ _ _ _ => trivial) (q + 1) y (by omega) (by omega) h3'
        refine ih y.1 _ (pt ++ [124]) m ((m1 ++ jc pe) ++ mt) bh3 s3 (by omega) (by omega) hy.2 ?_ (fun c hc => ?_) ?_ (BO_or hbo hbo3) (fun z => ?_) he hx hK
        · have e2 : m ++ (m1 ++ jc pe ++ mt) = m ++ m1 ++ jc pe ++ mt := by
            rw [List.append_assoc, List.append_assoc, List.append_assoc]
          rw [e2, List.append_assoc]
          exact hs3
        · rcases List.mem_append.mp hc with z | z
          · exact Or.inl (hpt c z)
          · exact Or.inr (List.mem_singleton.mp z)
        · have := SM_or (a := 0) hsm hsm3 hbo
          rw [show max (2 * (k : Int) + 6) (2 * k + 5 + 1) = 2 * k + 6 by omega] at this
          have e2 : m1 ++ jc pe ++ mt ++ jc (pt ++ [124]) = m1 ++ jc pe ++ (mt ++ jc pt) ++ [(124, 0)] := by
            unfold jc
            rw [List.map_append, List.append_assoc, List.append_assoc, List.append_assoc, List.append_assoc, List.append_assoc]
            rfl
          rw [e2]
          exact this
        · have := hnx.1
          rw [z] at this
          exact absurd this (by decide)
    · rw [if_neg e] at he hx hK
      exact fin q g pe m m1 bh σ _ rfl hq hqn h hpe hsm h38 (fun z => e (decide_eq_true z)) hx hK
theorem tcond (hG : CG ch n (160 * r)) (hT : MTp ch n r σ0) (hr : 0 ≤ r ∧ r < 20) (hc : 0 ≤ c0) {k : Nat} (hk : k ≤ 5) (hP : PIECEM Ln d ch n r c0 σ0 Qc k) : CONDM Ln d ch n r c0 σ0 Qc k := by
  intro Sx m q bh σ h hq hqn he hx hK
  have hseq : pCond ch n (pPiece ch n k) q = (match pPart ch n (pPiece ch n k) q with
    | .inl e => .inl e
    | .inr r => opLoop ch isO (pPart ch n (pPiece ch n k)) (fun _ => org) (n - r.1).toNat r.1 r.2) := rfl
  rw [hseq] at he hx hK
  refine tpart hG hT hr hc hk hP (S := 40 :: Sx) (Or.inl rfl) h hq hqn (fun e1 h1 => he e1 (by rw [h1])) (fun y h3 hny => ?_) (fun y pt mt s3 bh3 h3 hsm3 hbo3 hpt hs3 => ?_)
  · rw [h3] at hx
    exact hx y (opLoop_no (decide_eq_false (fun z => hny (Or.inl z)))) (fun z => hny (Or.inr z))
  · rw [h3] at he hx hK
    have h3' : opSeq ch n isA (pPiece ch n k) (fun _ => andg) q = .inr y := h3
    have hg := gd_seq hG.1 (op := isA) (by decide) (gd_piece hG.1 (n := n) k) (cb := fun _ => andg) (fun _ _ _ _ h1 h2 => BO_and h1 h2) q hq hqn
    rw [h3'] at hg
    have hy := hg.1
    have hnx := nx_seq (P := fun _ => True) hG.1 (op := isA) (by decide) (gd_piece hG.1 (n := n) k) (fun _ _ _ _ _ => trivial) q y hq hqn h3'
    refine oloop hG hT hr hc hk hP (n - y.1).toNat y.1 y.2 pt m mt bh3 s3 (Nat.le_refl _) (by omega) hy.2 hs3 (fun c hc => Or.inl (hpt c hc)) (SM_mono hsm3 (by omega)) hbo3 (fun z => ?_) he hx hK
    have := hnx.1
    rw [z] at this
    exact absurd this (by decide)
theorem pCmp_no {P : Int → Rs} {q : Int} {y : Int × GF} (h3 : P q = .inr y) (z : ¬ isG (ch y.1) = true) : pCmp ch P q = .inl (1, y.1) := by
  unfold pCmp
  rw [h3]
  dsimp only
  rw [if_neg z]
theorem pCmp_yes {P : Int → Rs} {q : Int} {y : Int × GF} (h3 : P q = .inr y) (z : isG (ch y.1) = true) : pCmp ch P q = (match P (y.1 + 1) with
    | .inl e => .inl e
    | .inr r2 => .inr (r2.1, bing (opx (ch y.1)) y.2 r2.2)) := by
  unfold pCmp
  rw [h3]
  dsimp only
  rw [if_pos z]
  cases P (y.1 + 1) <;> rfl
theorem isop_G {c : Int} (h : isG c = true) : isop c := by
  have : c = 60 ∨ c = 62 ∨ c = 61 := of_decide_eq_true h
  unfold isop
  omega
theorem hd_rep {b : Nat} {S0 : List Int} (h : S0.headD 0 = 40 ∨ S0.headD 0 = 38 ∨ S0.headD 0 = 124) : (List.replicate b 33 ++ S0).headD 0 = 33 ∨ (List.replicate b 33 ++ S0).headD 0 = 40 ∨ (List.replicate b 33 ++ S0).headD 0 = 38 ∨ (List.replicate b 33 ++ S0).headD 0 = 124 := by
  cases b with
  | zero => rw [List.replicate_zero, List.nil_append]; exact Or.inr h
  | succ b => exact Or.inl rfl
/-- a piece that is a comparison -/
theorem tcmp (hG : CG ch n (160 * r)) (hT : MTp ch n r σ0) (hr : 0 ≤ r ∧ r < 20) (hc : 0 ≤ c0) {k : Nat} (hk : k ≤ 5) {b : Nat} {S0 : List Int} {m : List (Int × Int)} {q bh : Int} {σ : AS} (h : MPr r c0 q (6 - k) bh (List.replicate b 33 ++ S0) m σ0 σ) (hS : S0.headD 0 = 40 ∨ S0.headD 0 = 38 ∨ S0.headD 0 = 124) (hb : (b : Int) ≤ 6 - k) (hq : 0 ≤ q) (hqn : q ≤ n) (hp : pPiece ch n k q = pCmp ch (pSum ch n (pFac ch n k)) q) (he : ∀ e, pPiece ch n k q = .inl e → KB r c0 σ0 Qc e) (hx : ∀ x, pPiece ch n k q = .inr x → ¬ (ch x.1 = 38 ∨ ch x.1 = 124 ∨ ch x.1 = 41) → KB r c0 σ0 Qc (1, x.1))
    (hK : ∀ x m1 s bh', pPiece ch n k q = .inr x → SM (m1 ++ rpN b) (2 * k + 4) (ntg b x.2) → MPr r c0 x.1 (6 - k - b) bh' S0 (m ++ (m1 ++ rpN b)) σ0 s → BHC Ln d Qc s) : am_E Ln (d + 6) 171 39 [vR 82, vI 1] [] (am_up σ 82 43 0) (am_rV (RST Ln d Qc)) := by
  have hn := hG.2.2.1
  rw [hp] at he hx hK
  have hsums := summs (Ln := Ln) (d := d) (Q := am_rV (RST Ln d Qc)) hG hT hr hc k hk
  have hSb := hd_rep (b := b) hS
  obtain ⟨Sb, hSbe⟩ : ∃ Sb, Sb = List.replicate b 33 ++ S0 := ⟨_, rfl⟩
  rw [← hSbe] at h hSb
  have tT : isT (Sb.headD 0) = false := by rcases hSb with z | z | z | z <;> rw [z] <;> rfl
  have tP : isP (Sb.headD 0) = false := by rcases hSb with z | z | z | z <;> rw [z] <;> rfl
  have tG : isG (Sb.headD 0) = false := by rcases hSb with z | z | z | z <;> rw [z] <;> rfl
  have t91 : Sb.headD 0 ≠ 91 := by omega
  have h0 := MPr_bh (bh' := 0) h
  -- a fault behind a sum
  have wr : ∀ (y1 : Int) (Sy : List Int) (my : List (Int × Int)) (s7 : AS), MPr r c0 y1 (6 - k) 0 Sy my σ0 s7 → 0 ≤ y1 → y1 ≤ n → KB r c0 σ0 Qc (1, y1) → ∃ T : Option AV → AS → Prop, am_M Ln (d + 5) 153 [vR 82, vI 1, vI (s7 82 35)] s7 T ∧ ∀ s17, T none s17 → (BAD r c0 (1, y1) σ0 s17 ∧ 0 ≤ s17 82 41 ∧ s17 82 41 < 200) ∧ ∀ x : Int, am_E Ln (d + 6) 171 39 [vR 82, vI x] [] s17 (am_rV (RST Ln d Qc)) := by
    intro y1 Sy my s7 h7 hy0 hyn hKB
    rw [h7.2.2.1.1]
    refine cV (sp_wrongs (d := d + 4) h7.2.2.1.2.1 (by decide) (by omega)) ?_
    rintro s17 rfl
    have hbd : BAD r c0 (1, y1) σ0 (am_up s7 82 37 (-1000 * 1 - y1)) := MPr_bad h7
    have hneg := BAD_neg hbd hKB.1
    have h6 := h7.2.2.2.2.2
    have e41 : (am_up s7 82 37 (-1000 * 1 - y1)) 82 41 = Sy.length := by rw [am_up_eq, if_neg (by decide)]; exact h7.2.2.1.2.2.2.2.1
    exact ⟨⟨hbd, by omega⟩, fun x => lh_bad (d := d + 5) (by omega) ((kb_of (d := d) (Ln := Ln) hKB).2 _ hbd)⟩
  have wrP : ∀ (y1 c : Int) (Sy : List Int) (my : List (Int × Int)) (s7 : AS), MPr r c0 y1 (6 - k) 0 Sy my σ0 s7 → 0 ≤ y1 → y1 ≤ n → KB r c0 σ0 Qc (1, y1) → ∃ T : Option AV → AS → Prop, am_M Ln (d + 5) 153 [vR 82, vI 1, vI (s7 82 35)] s7 T ∧ ∀ s23, T none s23 → ∃ T : Option AV → AS → Prop, am_M Ln (d + 5) 157 [vR 82, vI c] s23 T ∧ ∀ s24, T none s24 → am_b 1 ∧ ∀ x : Int, am_E Ln (d + 6) 171 39 [vR 82, vI x] [] s24 (am_rV (RST Ln d Qc)) := by
    intro y1 c Sy my s7 h7 hy0 hyn hKB
    obtain ⟨T, t1, t2⟩ := wr y1 Sy my s7 h7 hy0 hyn hKB
    refine ⟨T, t1, fun s23 h23 => ?_⟩
    obtain ⟨⟨b1, b2⟩, -⟩ := t2 s23 h23
    refine cV (sp_putsB (d := d + 4) b1 b2) ?_
    intro s24 h24
    have hneg := BAD_neg h24 hKB.1
    exact ⟨am_b1, fun x => lh_bad (d := d + 5) (by omega) ((kb_of (d := d) (Ln := Ln) hKB).2 _ h24)⟩
  refine lh_F (d := d + 5) h0.2.2.1.2.1 h0.2.2.1.2.2.2.2.2.2 (hsums Sb m q 0 _ h0 tT tP hq hqn (fun e1 h1 => kb_of (he e1 (by unfold pCmp; rw [h1]))) (fun y pe m1 s bh3 h3 hsm hpe hs => ?_))
  have hg := gd_sum hG.1 (gd_fac hG.1 (n := n) k) q hq hqn
  rw [h3] at hg
  have hy := hg.1
  have hnx := nx_sum hG.1 (gd_fac hG.1 (n := n) k) hq hqn h3
  refine aft_G (d := d + 5) hs (fun s4 hs4 => ?_)
  refine cI (go_N (d := d) hG hT hr hc (R := fun v s12 => (v = 0 → am_E Ln (d + 6) 171 39 [vR 82, vI 0] [] s12 (am_rV (RST Ln d Qc))) ∧ (¬ (v = 0) → am_E Ln (d + 6) 171 39 [vR 82, vI 1] [] s12 (am_rV (RST Ln d Qc)))) hs4 ⟨by omega, hy.2⟩ hpe tT tP hnx.1 hnx.2 (fun s7 h7 => ?_)) (fun v s12 hv => hv)
  refine ⟨fun z2 => cI (sp_top (d := d + 4) h7 (by omega) hc) ?_, fun z2 => cI (sp_isG (d := d + 4)) ?_⟩
  · rintro r9 s8 ⟨h9, rfl⟩
    refine ⟨fun w => absurd (h9.symm.trans w) t91, fun _ => ?_⟩
    obtain ⟨T, t1, t2⟩ := wr y.1 Sb _ s8 h7 (by omega) hy.2 (he _ (pCmp_no h3 (by rw [z2]; decide)))
    exact ⟨T, t1, fun s10 h10 => ⟨am_b0, fun _ => (t2 s10 h10).2 0, fun w => absurd rfl w⟩⟩
  · rintro r12 s11 ⟨h12, rfl⟩
    refine ⟨fun v => cI (sp_top (d := d + 4) h7 (by omega) hc) ?_, fun v => cI (sp_top (d := d + 4) h7 (by omega) hc) ?_⟩
    · have hng : ¬ isG (ch y.1) = true := fun w => (h12.mpr w) v
      rintro r14 s13 ⟨h14, rfl⟩
      refine cI (sp_isG (d := d + 4)) ?_
      rintro r16 s15 ⟨h16, rfl⟩
      have : r16 = 0 := by
        by_cases w : r16 = 0
        · exact w
        · have := h16.mp w
          rw [h14, tG] at this
          cases this
      refine ⟨fun _ => ?_, fun w => absurd this w⟩
      obtain ⟨T, t1, t2⟩ := wr y.1 Sb _ s15 h7 (by omega) hy.2 (he _ (pCmp_no h3 hng))
      exact ⟨T, t1, fun s10 h10 => ⟨am_b0, fun _ => (t2 s10 h10).2 0, fun w => absurd rfl w⟩⟩
    · have hsg := h12.mp v
      have hlt : y.1 < n := by
        by_cases w : n ≤ y.1
        · rw [hG.1 _ w] at hsg; exact absurd hsg (by decide)
        · omega
      rw [pCmp_yes h3 hsg] at he hx hK
      have sgT : isT (ch y.1) = false := hnx.1
      have sgP : isP (ch y.1) = false := hnx.2
      have sg91 : ch y.1 ≠ 91 := by
        have : ch y.1 = 60 ∨ ch y.1 = 62 ∨ ch y.1 = 61 := of_decide_eq_true hsg
        omega
      rintro r22 s21 ⟨h22, rfl⟩
      refine ⟨fun w => absurd (h22.symm.trans w) t91, fun _ => cI (sp_top (d := d + 4) h7 (by omega) hc) ?_⟩
      rintro r26 s25 ⟨h26, rfl⟩
      refine cI (sp_isG (d := d + 4)) ?_
      rintro r28 s27 ⟨h28, rfl⟩
      refine ⟨fun _ => cV (sp_puts (d := d + 4) (c := ch y.1) h7 (by omega) hc) ?_, fun w => ?_⟩
      · intro s29 h29
        refine ⟨am_b1, fun w => absurd w (by decide), fun _ => ?_⟩
        -- the second sum
        refine lh_F (d := d + 5) h29.2.2.1.2.1 h29.2.2.1.2.2.2.2.2.2 (hsums (ch y.1 :: Sb) _ (y.1 + 1) 0 _ h29 sgT sgP (by omega) (by omega) (fun e1 h1 => kb_of (he e1 (by rw [h1]))) (fun y2 pe2 m2 s' bh4 h4 hsm2 hpe2 hs2 => ?_))
        have hg2 := gd_sum hG.1 (gd_fac hG.1 (n := n) k) (y.1 + 1) (by omega) (by omega)
        rw [h4] at hg2 he hx hK
        have hy2 := hg2.1
        have hnx2 := nx_sum hG.1 (gd_fac hG.1 (n := n) k) (by omega) (by omega) h4
        refine aft_G (d := d + 5) hs2 (fun s5 hs5 => ?_)
        refine cI (go_N (d := d) hG hT hr hc (R := fun v s12 => (v = 0 → am_E Ln (d + 6) 171 39 [vR 82, vI 0] [] s12 (am_rV (RST Ln d Qc))) ∧ (¬ (v = 0) → am_E Ln (d + 6) 171 39 [vR 82, vI 1] [] s12 (am_rV (RST Ln d Qc)))) hs5 ⟨by omega, hy2.2⟩ hpe2 sgT sgP hnx2.1 hnx2.2 (fun s8 h8 => ?_)) (fun v s12 hv => hv)
        have early : ¬ (ch y2.1 = 38 ∨ ch y2.1 = 124 ∨ ch y2.1 = 41) → KB r c0 σ0 Qc (1, y2.1) := fun w => hx (y2.1, bing (opx (ch y.1)) y.2 y2.2) rfl w
        refine ⟨fun z3 => cI (sp_top (d := d + 4) h8 (by omega) hc) ?_, fun z3 => cI (sp_isG (d := d + 4)) ?_⟩
        · rintro r9 s9 ⟨h9, rfl⟩
          refine ⟨fun w => absurd (h9.symm.trans w) sg91, fun _ => ?_⟩
          obtain ⟨T, t1, t2⟩ := wr y2.1 _ _ s9 h8 (by omega) hy2.2 (early (by omega))
          exact ⟨T, t1, fun s10 h10 => ⟨am_b0, fun _ => (t2 s10 h10).2 0, fun w => absurd rfl w⟩⟩
        · rintro r12' s12 ⟨h12', rfl⟩
          refine ⟨fun v2 => cI (sp_top (d := d + 4) h8 (by omega) hc) ?_, fun v2 => cI (sp_top (d := d + 4) h8 (by omega) hc) ?_⟩
          · rintro r14 s13 ⟨h14, rfl⟩
            have e14 : r14 = ch y.1 := h14
            refine cI (sp_isG (d := d + 4)) ?_
            rintro r16 s15 ⟨h16, rfl⟩
            refine ⟨fun w => absurd (h16.mpr (by rw [e14]; exact hsg)) (fun w2 => w2 w), fun _ => cI (sp_top (d := d + 4) h8 (by omega) hc) ?_⟩
            rintro r19 s18 ⟨h19, rfl⟩
            have e19 : r19 = ch y.1 := h19
            rw [e19]
            have hlen8 := h8.2.2.2.2.2
            rw [List.length_cons] at hlen8
            refine sp_flush1 (d := d + 3) (c := ch y.1) (a := ch y.1) (S := Sb) (op' := 6 - k) (f := fun s => am_up s 82 41 (w32 (s 82 41 - 1))) (MTp_fr hT h8.1) h8 hr hc (by omega) (K := fun s => am_b 0 ∧ ((0 : Int) = 0 → am_E Ln (d + 6) 171 39 [vR 82, vI 0] [] s (am_rV (RST Ln d Qc))) ∧ (¬ ((0 : Int) = 0) → am_E Ln (d + 6) 171 39 [vR 82, vI 1] [] s (am_rV (RST Ln d Qc)))) (fun s e41 e40 => ?_) (fun s hs => ?_)
            · obtain ⟨a1, a2, a3, a4⟩ := pop_f (k := Sb.length) e41 (by omega)
              exact ⟨a1, a2, a3.trans e40, a4⟩
            · refine ⟨am_b0, fun _ => ?_, fun w => absurd rfl w⟩
              -- the piece is read
              refine vl_X12_piece_39 _ _ ⟨fun _ => cI (sp_goodG (d := d + 5) hs.2.2.1.2.1) ?_, fun w => absurd rfl w⟩
              rintro r2 s1 ⟨rfl, rfl⟩
              refine ⟨fun w => absurd w (by decide), fun _ => ?_⟩
              rw [hSbe] at hs
              refine cV (sp_ends (d := d + 2) hT hr hc (by omega) (by omega) hs ⟨hb, by omega⟩) ?_
              intro s3 hs3
              refine ⟨fun _ => hK (y2.1, bing (opx (ch y.1)) y.2 y2.2) ((m1 ++ jc pe) ++ (m2 ++ jc pe2) ++ [(ch y.1, 0)]) s3 0 rfl (SM_nots b ?_) ?_, fun w => absurd hs3.2.2.1.2.1 w⟩
              · have := SM_bin (a := 0) hsm hsm2 (isop_G hsg)
                exact SM_mono this (by omega)
              · have e2 : m ++ (m1 ++ jc pe ++ (m2 ++ jc pe2) ++ [(ch y.1, 0)] ++ rpN b) = m ++ m1 ++ List.map (fun c => (c, 0)) pe ++ m2 ++ List.map (fun c => (c, 0)) pe2 ++ [(ch y.1, 0)] ++ List.replicate b (2, 0) := by
                  unfold jc rpN
                  simp only [List.append_assoc]
                rw [e2]
                exact hs3
          · have hsg2 := h12'.mp v2
            have sgb : ch y2.1 = 60 ∨ ch y2.1 = 62 ∨ ch y2.1 = 61 := of_decide_eq_true hsg2
            rintro r22' s22 ⟨h22', rfl⟩
            refine ⟨fun w => absurd (h22'.symm.trans w) sg91, fun _ => cI (sp_top (d := d + 4) h8 (by omega) hc) ?_⟩
            rintro r26' s26 ⟨h26', rfl⟩
            have e26 : r26' = ch y.1 := h26'
            refine cI (sp_isG (d := d + 4)) ?_
            rintro r28' s28 ⟨h28', rfl⟩
            refine ⟨fun w => absurd (h28'.mpr (by rw [e26]; exact hsg)) (fun w2 => w2 w), fun _ => ?_⟩
            obtain ⟨T, t1, t2⟩ := wrP y2.1 (ch y2.1) _ _ s28 h8 (by omega) hy2.2 (early (by omega))
            refine ⟨T, t1, fun s23 h23 => ?_⟩
            obtain ⟨T2, t3, t4⟩ := t2 s23 h23
            exact ⟨T2, t3, fun s24 h24 => ⟨am_b1, fun w => absurd w (by decide), fun _ => (t4 s24 h24).2 1⟩⟩
      · have := h28.mp w
        rw [h26, tG] at this
        cases this
theorem piecem (hG : CG ch n (160 * r)) (hT : MTp ch n r σ0) (hr : 0 ≤ r ∧ r < 20) (hc : 0 ≤ c0) {k : Nat} (hk : k ≤ 5) (hP : ∀ k' : Nat, k = k' + 1 → PIECEM Ln d ch n r c0 σ0 Qc k') : PIECEM Ln d ch n r c0 σ0 Qc k := by
  intro b S0 m q bh σ h hS hb hq hqn he hx hK
  have hn := hG.2.2.1
  have hT' := MTp_fr hT h.1
  have hmo : k = 0 ∨ ∃ k', k = k' + 1 := by cases k; exact Or.inl rfl; exact Or.inr ⟨_, rfl⟩
  have deep : k = 0 → (ch q = 33 ∨ ch q = 40) → ∃ T : Option AV → AS → Prop, am_M Ln (d + 6) 158 [vR 82] σ T ∧ ∀ s5, T none s5 → am_E Ln (d + 6) 171 0 [vR 82, vU] [] s5 (am_rV (RST Ln d Qc)) := by
    rintro rfl hc2
    have hlt : q < n := by rcases hc2 with z | z <;> exact ch_lt hG.1 z (by decide)
    have hf : pPiece ch n 0 q = .inl (5, q) := by
      rw [pPiece]
      rcases hc2 with z | z
      · rw [if_pos z]
      · by_cases z2 : ch q = 33
        · rw [if_pos z2]
        · rw [if_neg z2, if_pos z]
    have hKB := he _ hf
    refine cV (sp_opensB (d := d + 4) hG hT' (q := q) (by rw [show (6 : Int) - ((0 : Nat) : Int) = 6 by decide] at h; exact h) ⟨hq, hlt⟩ hc) ?_
    intro s5 h5
    have hneg := BAD_neg h5 hKB.1
    refine vl_X12_piece_0 _ (cI (sp_goodB (d := d + 5) (by omega)) ?_)
    rintro r2 s1 ⟨rfl, rfl⟩
    refine ⟨fun _ => ⟨am_b0, ?_⟩, fun z => absurd rfl z⟩
    have h6 : BAD r c0 (5, q) σ0 (am_up s1 82 43 0) := BAD_up h5 (by decide) (by decide)
    have hneg2 := BAD_neg h6 hKB.1
    exact lh_bad (d := d + 5) (by omega) ((kb_of (d := d) (Ln := Ln) hKB).2 _ h6)
  refine vl_X12_piece_0 _ (cI (sp_goodG (d := d + 5) h.2.2.1.2.1) ?_)
  rintro r2 s1 ⟨rfl, rfl⟩
  refine ⟨fun z => absurd z (by decide), fun _ => cI (sp_here (d := d + 5) hG hT' h.2.2.1.1 hq) ?_⟩
  rintro r4 s3 ⟨rfl, rfl⟩
  refine ⟨fun z => ?_, fun z => cI (sp_here (d := d + 5) hG hT' h.2.2.1.1 hq) ?_⟩
  · have hlt := ch_lt hG.1 z (by decide)
    rcases hmo with h0 | ⟨k', rfl⟩
    · exact deep h0 (Or.inl z)
    · have hf : pPiece ch n (k' + 1) q = pNot (pPiece ch n k') q := by rw [pPiece, if_pos z]
      refine cV (sp_opens (d := d + 4) hG hT' h ⟨hq, hlt⟩ hc (by omega)) ?_
      intro s5 h5
      rw [show (6 - ((k' + 1 : Nat) : Int) + 1) = 6 - (k' : Int) by omega, z] at h5
      refine hP k' rfl (b + 1) S0 m (q + 1) bh s5 (by rw [List.replicate_succ, List.cons_append]; exact h5) hS (by omega) (by omega) (by omega) (fun e1 h1 => he e1 (by rw [hf]; unfold pNot; rw [h1])) (fun x h1 hny => ?_) (fun x m1 s bh' h1 hsm hs => ?_)
      · exact hx (x.1, notg x.2) (by rw [hf]; unfold pNot; rw [h1]) hny
      · refine hK (x.1, notg x.2) (m1 ++ [(2, 0)]) s bh' (by rw [hf]; unfold pNot; rw [h1]) ?_ ?_
        · rw [List.append_assoc]
          exact SM_mono hsm (by omega)
        · rw [List.append_assoc m1]
          rw [show (6 - ((k' + 1 : Nat) : Int) - (b : Int)) = 6 - (k' : Int) - ((b + 1 : Nat) : Int) by omega]
          exact hs
  · rintro r7 s6 ⟨rfl, rfl⟩
    refine ⟨fun z2 => ?_, fun z2 => ⟨am_b0, tcmp hG hT hr hc hk h hS hb hq hqn (pPiece_ne z z2) he hx hK⟩⟩
    have hlt := ch_lt hG.1 z2 (by decide)
    rcases hmo with h0 | ⟨k', rfl⟩
    · exact deep h0 (Or.inr z2)
    · have hf : pPiece ch n (k' + 1) q = pIn ch 41 (pCond ch n (pPiece ch n k')) q := by rw [pPiece, if_neg z, if_pos z2]
      refine cV (sp_opens (d := d + 4) hG hT' h ⟨hq, hlt⟩ hc (by omega)) ?_
      intro s5 h5
      rw [show (6 - ((k' + 1 : Nat) : Int) + 1) = 6 - (k' : Int) by omega, z2] at h5
      refine tcond hG hT hr hc (by omega) (hP k' rfl) (List.replicate b 33 ++ S0) m (q + 1) bh s5 h5 (by omega) (by omega) (fun e1 h1 => he e1 (by rw [hf]; unfold pIn; rw [h1])) (fun x h1 h41 => he _ (hf.trans (pIn_no h1 h41))) (fun x pe m1 s bh' h1 h41 hsm hpe hs => ?_)
      have hg := gd_cond hG.1 (gd_piece hG.1 (n := n) k') (q + 1) (by omega) (by omega)
      rw [h1] at hg
      have hy := hg.1
      refine gb_C hG hT hr hc hs ⟨by omega, hy.2⟩ hpe h41 (by omega) (fun w => ?_) (fun _ => ⟨b, S0, rfl, by omega, by omega, fun s9 hs9 => ?_⟩)
      · have e0 := (List.append_eq_nil_iff.mp w).2
        rw [e0] at hS
        simp at hS
      · refine hK (x.1 + 1, x.2) (m1 ++ jc pe) s9 bh' (hf.trans (pIn_ok h1 h41)) (SM_nots b (SM_mono hsm (by omega))) ?_
        rw [show (6 - ((k' + 1 : Nat) : Int) - (b : Int)) = 6 - (k' : Int) - 1 - b by omega]
        have e2 : m ++ (m1 ++ jc pe ++ rpN b) = m ++ m1 ++ jc pe ++ List.replicate b (2, 0) := by
          unfold rpN
          simp only [List.append_assoc]
        rw [e2]
        exact hs9
theorem piecems (hG : CG ch n (160 * r)) (hT : MTp ch n r σ0) (hr : 0 ≤ r ∧ r < 20) (hc : 0 ≤ c0) : ∀ k : Nat, k ≤ 5 → PIECEM Ln d ch n r c0 σ0 Qc k := by
  intro k
  induction k with
  | zero => intro _; exact piecem hG hT hr hc (by omega) (fun k' h => by omega)
  | succ k ih =>
    intro hk
    refine piecem hG hT hr hc hk (fun k' h => ?_)
    obtain rfl : k' = k := by omega
    exact ih (by omega)
end MQ
