/-! the model reads factors, terms, sums -/
section NX
variable {ch : Int → Int} {n : Int} {Z : GF → Prop}
theorem nx_loop (hz : ∀ q : Int, n ≤ q → ch q = 0) {op : Int → Bool} (h0 : op 0 = false) {F : Int → Rs} {cb : Int → GF → GF → GF} (hF : gdF n Z F) {P : Int → Prop} (hP : ∀ (q : Int) y, 0 ≤ q → q ≤ n → F q = .inr y → P (ch y.1)) : ∀ (m : Nat) (q : Int) (g : GF), (n - q).toNat ≤ m → 0 ≤ q → q ≤ n → P (ch q) → ∀ x, opLoop ch op F cb m q g = .inr x → op (ch x.1) = false ∧ P (ch x.1)
  | 0, q, g, hm, hq, hqn, hp, x, h => by
    rw [opLoop] at h
    cases h
    exact ⟨by rw [hz q (by omega)]; exact h0, hp⟩
  | m + 1, q, g, hm, hq, hqn, hp, x, h => by
    rw [opLoop] at h
    by_cases e : op (ch q) = true
    · rw [if_pos e] at h
      have hlt : q < n := by
        by_cases y : n ≤ q
        · rw [hz q y, h0] at e; cases e
        · omega
      have hg := hF (q + 1) (by omega) (by omega)
      cases hr : F (q + 1) with
      | inl e => rw [hr] at h; cases h
      | inr r =>
        rw [hr] at h hg
        have := hg.1
        exact nx_loop hz h0 hF hP m r.1 _ (by omega) (by omega) this.2 (hP _ _ (by omega) (by omega) hr) x h
    · rw [if_neg e] at h
      cases h
      refine ⟨?_, hp⟩
      cases hb : op (ch q) with
      | true => exact absurd hb e
      | false => rfl
theorem nx_seq (hz : ∀ q : Int, n ≤ q → ch q = 0) {op : Int → Bool} (h0 : op 0 = false) {F : Int → Rs} {cb : Int → GF → GF → GF} (hF : gdF n Z F) {P : Int → Prop} (hP : ∀ (q : Int) y, 0 ≤ q → q ≤ n → F q = .inr y → P (ch y.1)) (q : Int) (x : Int × GF) (hq : 0 ≤ q) (hqn : q ≤ n) (h : opSeq ch n op F cb q = .inr x) : op (ch x.1) = false ∧ P (ch x.1) := by
  unfold opSeq at h
  have hg := hF q hq hqn
  cases hr : F q with
  | inl e => rw [hr] at h; cases h
  | inr r =>
    rw [hr] at h hg
    have := hg.1
    exact nx_loop hz h0 hF hP _ r.1 r.2 (Nat.le_refl _) (by omega) this.2 (hP _ _ hq hqn hr) x h
theorem nx_sum (hz : ∀ q : Int, n ≤ q → ch q = 0) {F : Int → Rs} (hF : gdF n ZT F) {q : Int} {x : Int × GF} (hq : 0 ≤ q) (hqn : q ≤ n) (h : pSum ch n F q = .inr x) : isT (ch x.1) = false ∧ isP (ch x.1) = false := by
  have := nx_seq (P := fun c => isT c = false) hz (by decide) (gd_seq hz (by decide) hF (fun _ _ _ _ _ _ => trivial)) (fun q' y h1 h2 h3 => (nx_seq (P := fun _ => True) hz (by decide) hF (fun _ _ _ _ _ => trivial) q' y h1 h2 h3).1) q x hq hqn h
  exact ⟨this.2, this.1⟩
end NX
section MS2
variable {Ln : Int} {d : Nat} {ch : Int → Int} {n r c0 : Int} {σ0 : AS} {Q : Option AV → AS → Prop}
def jc (pe : List Int) : List (Int × Int) := pe.map (fun c => (c, 0))
def FACM (Ln : Int) (d : Nat) (ch : Int → Int) (n r c0 : Int) (σ0 : AS) (Q : Option AV → AS → Prop) (k : Nat) : Prop := ∀ (S : List Int) (m : List (Int × Int)) (q bh : Int) (σ : AS), MPr r c0 q (6 - k) bh S m σ0 σ → 0 ≤ q → q ≤ n → (∀ e, pFac ch n k q = .inl e → KB r c0 σ0 Q e) → (∀ x m1 s bh', pFac ch n k q = .inr x → SM m1 (2 * k + 1) x.2 → MPr r c0 x.1 (6 - k) bh' S (m ++ m1) σ0 s → AFT Ln (d + 6) Q s) → FH Ln (d + 5) Q σ
def SUMM (Ln : Int) (d : Nat) (ch : Int → Int) (n r c0 : Int) (σ0 : AS) (Q : Option AV → AS → Prop) (k : Nat) : Prop := ∀ (S : List Int) (m : List (Int × Int)) (q bh : Int) (σ : AS), MPr r c0 q (6 - k) bh S m σ0 σ → isT (S.headD 0) = false → isP (S.headD 0) = false → 0 ≤ q → q ≤ n → (∀ e, pSum ch n (pFac ch n k) q = .inl e → KB r c0 σ0 Q e) → (∀ x pe m1 s bh', pSum ch n (pFac ch n k) q = .inr x → SM (m1 ++ jc pe) (2 * k + 3) x.2 → (∀ c ∈ pe, arI c) → MPr r c0 x.1 (6 - k) bh' (pe ++ S) (m ++ m1) σ0 s → AFT Ln (d + 6) Q s) → FH Ln (d + 5) Q σ
theorem isop_T {c : Int} (h : isT c = true) : isop c := by
  have : c = 42 ∨ c = 47 ∨ c = 37 := of_decide_eq_true h
  unfold isop
  omega
theorem isop_P {c : Int} (h : isP c = true) : isop c := by
  have : c = 43 ∨ c = 45 := of_decide_eq_true h
  unfold isop
  omega
theorem tloop (hG : CG ch n (160 * r)) (hT : MTp ch n r σ0) (hr : 0 ≤ r ∧ r < 20) (hc : 0 ≤ c0) {k : Nat} (hFac : FACM Ln d ch n r c0 σ0 Q k) : ∀ (fu : Nat) (q : Int) (g : GF) (pt S : List Int) (m m1 : List (Int × Int)) (bh : Int) (σ : AS), (n - q).toNat ≤ fu → 0 ≤ q → q ≤ n → MPr r c0 q (6 - k) bh (pt ++ S) (m ++ m1) σ0 σ → (∀ c ∈ pt, isT c = true) → isT (S.headD 0) = false → SM (m1 ++ jc pt) (2 * k + 2) g →
    (∀ e, opLoop ch isT (pFac ch n k) (fun c => bing (opx c)) fu q g = .inl e → KB r c0 σ0 Q e) → (∀ x pt' m1' s bh', opLoop ch isT (pFac ch n k) (fun c => bing (opx c)) fu q g = .inr x → SM (m1' ++ jc pt') (2 * k + 2) x.2 → (∀ c ∈ pt', isT c = true) → MPr r c0 x.1 (6 - k) bh' (pt' ++ S) (m ++ m1') σ0 s → AFT Ln (d + 6) Q s) → AFT Ln (d + 6) Q σ := by
  intro fu
  induction fu with
  | zero =>
    intro q g pt S m m1 bh σ hm hq hqn h hpt hS hsm he hK
    exact hK (q, g) pt m1 σ bh rfl hsm hpt h
  | succ fu ih =>
    intro q g pt S m m1 bh σ hm hq hqn h hpt hS hsm he hK
    rw [opLoop] at he hK
    by_cases e : isT (ch q) = true
    · rw [if_pos e] at he hK
      have hlt : q < n := by
        by_cases y : n ≤ q
        · rw [hG.1 q y] at e; exact absurd e (by decide)
        · omega
      refine aft_G (d := d + 5) h (fun s hs => go_T (d := d) hG hT hr hc hs ⟨hq, hqn⟩ hpt hS e (fun s2 hs2 => ?_))
      refine hFac (ch q :: S) _ (q + 1) 0 s2 hs2 (by omega) (by omega) (fun e1 h1 => he e1 (by rw [h1])) (fun y mf s3 bh3 h3 hsm3 hs3 => ?_)
      rw [h3] at he hK
      have hg := gd_fac hG.1 (n := n) k (q + 1) (by omega) (by omega)
      rw [h3] at hg
      have hy := hg.1
      refine ih y.1 _ [ch q] S m ((m1 ++ jc pt) ++ mf) bh3 s3 (by omega) (by omega) hy.2 ?_ (fun c hc => by rw [List.mem_singleton.mp hc]; exact e) hS ?_ he hK
      · have e2 : m ++ (m1 ++ jc pt ++ mf) = m ++ m1 ++ pt.map (fun c => (c, 0)) ++ mf := by
          unfold jc
          rw [List.append_assoc, List.append_assoc, List.append_assoc]
        rw [e2]
        exact hs3
      · have := SM_bin (a := 0) hsm hsm3 (isop_T e)
        rw [show max (2 * (k : Int) + 2) (2 * k + 1 + 1) = 2 * k + 2 by omega] at this
        exact this
    · rw [if_neg e] at he hK
      exact hK (q, g) pt m1 σ bh rfl hsm hpt h
/-- a term -/
theorem tterm (hG : CG ch n (160 * r)) (hT : MTp ch n r σ0) (hr : 0 ≤ r ∧ r < 20) (hc : 0 ≤ c0) {k : Nat} (hFac : FACM Ln d ch n r c0 σ0 Q k) {S : List Int} {m : List (Int × Int)} {q bh : Int} {σ : AS} (h : MPr r c0 q (6 - k) bh S m σ0 σ) (hS : isT (S.headD 0) = false) (hq : 0 ≤ q) (hqn : q ≤ n) (he : ∀ e, pTerm ch n (pFac ch n k) q = .inl e → KB r c0 σ0 Q e) (hK : ∀ x pt m1 s bh', pTerm ch n (pFac ch n k) q = .inr x → SM (m1 ++ jc pt) (2 * k + 2) x.2 → (∀ c ∈ pt, isT c = true) → MPr r c0 x.1 (6 - k) bh' (pt ++ S) (m ++ m1) σ0 s → AFT Ln (d + 6) Q s) : FH Ln (d + 5) Q σ := by
  unfold pTerm opSeq at he hK
  refine hFac S m q bh σ h hq hqn (fun e h1 => he e (by rw [h1])) (fun y mf s3 bh3 h3 hsm3 hs3 => ?_)
  rw [h3] at he hK
  have hg := gd_fac hG.1 (n := n) k q hq hqn
  rw [h3] at hg
  have hy := hg.1
  refine tloop hG hT hr hc hFac (n - y.1).toNat y.1 y.2 [] S m mf bh3 s3 (Nat.le_refl _) (by omega) hy.2 hs3 (fun c hc => by cases hc) hS ?_ he hK
  show SM (mf ++ []) _ _
  rw [List.append_nil]
  exact SM_mono hsm3 (by omega)
theorem ploop (hG : CG ch n (160 * r)) (hT : MTp ch n r σ0) (hr : 0 ≤ r ∧ r < 20) (hc : 0 ≤ c0) {k : Nat} (hFac : FACM Ln d ch n r c0 σ0 Q k) {S : List Int} (hS1 : isT (S.headD 0) = false) (hS2 : isP (S.headD 0) = false) : ∀ (fu : Nat) (q : Int) (g : GF) (pe : List Int) (m m1 : List (Int × Int)) (bh : Int) (σ : AS), (n - q).toNat ≤ fu → 0 ≤ q → q ≤ n → MPr r c0 q (6 - k) bh (pe ++ S) (m ++ m1) σ0 σ → (∀ c ∈ pe, arI c) → SM (m1 ++ jc pe) (2 * k + 3) g →
    (∀ e, opLoop ch isP (pTerm ch n (pFac ch n k)) (fun c => bing (opx c)) fu q g = .inl e → KB r c0 σ0 Q e) → (∀ x pe' m1' s bh', opLoop ch isP (pTerm ch n (pFac ch n k)) (fun c => bing (opx c)) fu q g = .inr x → SM (m1' ++ jc pe') (2 * k + 3) x.2 → (∀ c ∈ pe', arI c) → MPr r c0 x.1 (6 - k) bh' (pe' ++ S) (m ++ m1') σ0 s → AFT Ln (d + 6) Q s) → AFT Ln (d + 6) Q σ := by
  intro fu
  induction fu with
  | zero =>
    intro q g pe m m1 bh σ hm hq hqn h hpe hsm he hK
    exact hK (q, g) pe m1 σ bh rfl hsm hpe h
  | succ fu ih =>
    intro q g pe m m1 bh σ hm hq hqn h hpe hsm he hK
    rw [opLoop] at he hK
    by_cases e : isP (ch q) = true
    · rw [if_pos e] at he hK
      have hlt : q < n := by
        by_cases y : n ≤ q
        · rw [hG.1 q y] at e; exact absurd e (by decide)
        · omega
      refine aft_G (d := d + 5) h (fun s hs => go_P (d := d) hG hT hr hc hs ⟨hq, hqn⟩ hpe hS1 hS2 e (fun s2 hs2 => ?_))
      refine tterm hG hT hr hc hFac (S := ch q :: S) hs2 (isT_P e) (by omega) (by omega) (fun e1 h1 => he e1 (by rw [h1])) (fun y pt mt s3 bh3 h3 hsm3 hpt hs3 => ?_)
      rw [h3] at he hK
      have hg := gd_seq hG.1 (op := isT) (by decide) (gd_fac hG.1 (n := n) k) (cb := fun c => bing (opx c)) (fun _ _ _ _ _ _ => trivial) (q + 1) (by omega) (by omega)
      have h3' : opSeq ch n isT (pFac ch n k) (fun c => bing (opx c)) (q + 1) = .inr y := h3
      rw [h3'] at hg
      have hy := hg.1
      refine ih y.1 _ (pt ++ [ch q]) m ((m1 ++ jc pe) ++ mt) bh3 s3 (by omega) (by omega) hy.2 ?_ (fun c hc => ?_) ?_ he hK
      · have e2 : m ++ (m1 ++ jc pe ++ mt) = m ++ m1 ++ pe.map (fun c => (c, 0)) ++ mt := by
          unfold jc
          rw [List.append_assoc, List.append_assoc, List.append_assoc]
        rw [e2, List.append_assoc]
        exact hs3
      · rcases List.mem_append.mp hc with z | z
        · exact Or.inl (hpt c z)
        · rw [List.mem_singleton.mp z]; exact Or.inr e
      · have := SM_bin (a := 0) hsm hsm3 (isop_P e)
        rw [show max (2 * (k : Int) + 3) (2 * k + 2 + 1) = 2 * k + 3 by omega] at this
        have e2 : m1 ++ jc pe ++ mt ++ jc (pt ++ [ch q]) = m1 ++ jc pe ++ (mt ++ jc pt) ++ [(ch q, 0)] := by
          unfold jc
          rw [List.map_append, List.append_assoc, List.append_assoc, List.append_assoc, List.append_assoc, List.append_assoc]
          rfl
        rw [e2]
        exact this
    · rw [if_neg e] at he hK
      exact hK (q, g) pe m1 σ bh rfl hsm hpe h
theorem tsum (hG : CG ch n (160 * r)) (hT : MTp ch n r σ0) (hr : 0 ≤ r ∧ r < 20) (hc : 0 ≤ c0) {k : Nat} (hFac : FACM Ln d ch n r c0 σ0 Q k) : SUMM Ln d ch n r c0 σ0 Q k := by
  intro S m q bh σ h hS1 hS2 hq hqn he hK
  have hseq : pSum ch n (pFac ch n k) q = (match pTerm ch n (pFac ch n k) q with
    | .inl e => .inl e
    | .inr r => opLoop ch isP (pTerm ch n (pFac ch n k)) (fun c => bing (opx c)) (n - r.1).toNat r.1 r.2) := rfl
  rw [hseq] at he hK
  refine tterm hG hT hr hc hFac h hS1 hq hqn (fun e h1 => he e (by rw [h1])) (fun y pt mt s3 bh3 h3 hsm3 hpt hs3 => ?_)
  rw [h3] at he hK
  have hg := gd_seq hG.1 (op := isT) (by decide) (gd_fac hG.1 (n := n) k) (cb := fun c => bing (opx c)) (fun _ _ _ _ _ _ => trivial) q hq hqn
  have h3' : opSeq ch n isT (pFac ch n k) (fun c => bing (opx c)) q = .inr y := h3
  rw [h3'] at hg
  have hy := hg.1
  exact ploop hG hT hr hc hFac hS1 hS2 (n - y.1).toNat y.1 y.2 pt m mt bh3 s3 (Nat.le_refl _) (by omega) hy.2 hs3 (fun c hc => Or.inl (hpt c hc)) (SM_mono hsm3 (by omega)) he hK
end MS2
