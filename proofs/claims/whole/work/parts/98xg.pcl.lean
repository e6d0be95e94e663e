/-! clauses and rules, as they are read -/
abbrev Cx : Type := Int × Int × Int × GF
abbrev Cs : Type := Sum (Int × Int) (Int × Int × Int × GF)
def isC (c : Int) : Bool := decide (c = 119 ∨ c = 114 ∨ c = 103 ∨ c = 120)
def pHead (ch : Int → Int) (q : Int) : Sum (Int × Int) (Int × Int) := if ch q = 119 then pNum ch 4 (q + 1) else .inr (q + 1, 0)
def pBody (ch : Int → Int) (n : Int) (r : Int × Int) : Cs := if ch r.1 = 40 then (match pIn ch 41 (pCond ch n (pPiece ch n 5)) r.1 with
  | .inl e => .inl e
  | .inr x => .inr (x.1, r.2, 0, x.2)) else .inl (1, r.1)
def pX (ch : Int → Int) (q : Int) : Cs := match pNum ch 19 (q + 1) with
  | .inl e => .inl e
  | .inr r => if ch r.1 = 46 then (match pNum ch 11 (r.1 + 1) with
    | .inl e => .inl e
    | .inr x => .inr (x.1, r.2, x.2, fun _ => none)) else .inl (1, r.1)
def pClause (ch : Int → Int) (n j q : Int) : Cs := if isC (ch q) = true then (if 12 ≤ j then .inl (4, q) else if ch q = 120 then pX ch q else (match pHead ch q with
  | .inl e => .inl e
  | .inr r => pBody ch n r)) else .inl (1, q)
def pRules (ch : Int → Int) (n : Int) : Nat → Int → Int → Sum (Int × Int) (List Cx)
  | 0, _, _ => .inl (1, 0)
  | m + 1, j, q => match pClause ch n j q with
    | .inl e => .inl e
    | .inr r => if r.1 < n then (if ch r.1 = 59 then (match pRules ch n m (j + 1) (r.1 + 1) with
      | .inl e => .inl e
      | .inr L => .inr ((ch q, r.2) :: L)) else .inl (1, r.1)) else .inr [(ch q, r.2)]
/-- what a clause is -/
def Cok (x : Cx) : Prop := isC x.1 = true ∧ (x.1 = 120 → (0 ≤ x.2.1 ∧ x.2.1 < 20) ∧ 0 ≤ x.2.2.1 ∧ x.2.2.1 < 12) ∧ (x.1 ≠ 120 → (x.1 = 119 → 0 ≤ x.2.1 ∧ x.2.1 ≤ 4) ∧ BO x.2.2.2)
def gdC (n q c : Int) : Cs → Prop
  | .inl e => (1 ≤ e.1 ∧ e.1 ≤ 5) ∧ 0 ≤ e.2 ∧ e.2 ≤ n
  | .inr r => (q < r.1 ∧ r.1 ≤ n) ∧ Cok (c, r.2)
section GDC
variable {ch : Int → Int} {n : Int}
theorem dL_nn : ∀ (m : Nat) (q v : Int), 0 ≤ v → ∀ r, dLoop ch m q v = .inr r → 0 ≤ r.2
  | 0, q, v, hv, r, h => by
    rw [dLoop] at h
    by_cases e : isD (ch q) = true
    · rw [if_pos e] at h; cases h
    · rw [if_neg e] at h; cases h; exact hv
  | m + 1, q, v, hv, r, h => by
    rw [dLoop] at h
    by_cases e : isD (ch q) = true
    · rw [if_pos e] at h
      have hr : 48 ≤ ch q ∧ ch q ≤ 57 := of_decide_eq_true e
      exact dL_nn m _ _ (by omega) r h
    · rw [if_neg e] at h; cases h; exact hv
theorem pNum_rg {lim q : Int} {r : Int × Int} (h : pNum ch lim q = .inr r) : 0 ≤ r.2 ∧ r.2 ≤ lim := by
  unfold pNum at h
  by_cases e : isD (ch q) = true
  · rw [if_pos e] at h
    cases hd : dLoop ch 6 q 0 with
    | inl e => rw [hd] at h; cases h
    | inr x =>
      rw [hd] at h
      dsimp only at h
      by_cases z : lim < x.2
      · rw [if_pos z] at h; cases h
      · rw [if_neg z] at h
        cases h
        exact ⟨dL_nn 6 q 0 (Int.le_refl 0) _ hd, by omega⟩
  · rw [if_neg e] at h; cases h
theorem gd_X (hz : ∀ q : Int, n ≤ q → ch q = 0) {q : Int} (h0 : 0 ≤ q) (h1 : q < n) : gdC n q 120 (pX ch q) := by
  unfold pX
  have g1 := gd_num (n := n) hz (lim := 19) (q := q + 1) (by omega) (by omega)
  cases hr : pNum ch 19 (q + 1) with
  | inl e => rw [hr] at g1; exact g1
  | inr r =>
    rw [hr] at g1
    have b1 := pNum_rg hr
    dsimp only
    by_cases z : ch r.1 = 46
    · rw [if_pos z]
      have hlt := ch_lt hz z (by decide)
      have g2 := gd_num (n := n) hz (lim := 11) (q := r.1 + 1) (by omega) (by omega)
      cases hr2 : pNum ch 11 (r.1 + 1) with
      | inl e => rw [hr2] at g2; exact g2
      | inr x =>
        rw [hr2] at g2
        have b2 := pNum_rg hr2
        exact ⟨⟨by show q < x.1; omega, g2.2⟩, rfl, fun _ => ⟨⟨b1.1, by show r.2 < 20; omega⟩, b2.1, by show x.2 < 12; omega⟩, fun y => absurd rfl y⟩
    · rw [if_neg z]
      exact ⟨⟨by dsimp only; decide, by dsimp only; decide⟩, by show 0 ≤ r.1; omega, g1.2⟩
theorem gd_body (hz : ∀ q : Int, n ≤ q → ch q = 0) {q c : Int} {r : Int × Int} (h0 : 0 ≤ q) (h1 : q < r.1) (h2 : r.1 ≤ n) (hc : isC c = true) (hx : c ≠ 120) (hw : c = 119 → 0 ≤ r.2 ∧ r.2 ≤ 4) : gdC n q c (pBody ch n r) := by
  unfold pBody
  by_cases z : ch r.1 = 40
  · rw [if_pos z]
    have hlt := ch_lt hz z (by decide)
    have g := gd_in hz (cl := 41) (by decide) (gd_cond hz (gd_piece hz 5)) (q := r.1) (by omega) hlt
    cases hr : pIn ch 41 (pCond ch n (pPiece ch n 5)) r.1 with
    | inl e => rw [hr] at g; exact g
    | inr x =>
      rw [hr] at g
      exact ⟨⟨by have := g.1; show q < x.1; omega, g.1.2⟩, hc, fun y => absurd y hx, fun _ => ⟨hw, g.2⟩⟩
  · rw [if_neg z]
    exact ⟨⟨by dsimp only; decide, by dsimp only; decide⟩, by show 0 ≤ r.1; omega, h2⟩
theorem gd_clause (hz : ∀ q : Int, n ≤ q → ch q = 0) {j q : Int} (h0 : 0 ≤ q) (h1 : q ≤ n) : gdC n q (ch q) (pClause ch n j q) := by
  unfold pClause
  by_cases e : isC (ch q) = true
  · rw [if_pos e]
    have hlt : q < n := by
      by_cases y : n ≤ q
      · rw [hz q y] at e; exact absurd e (by decide)
      · omega
    by_cases hj : 12 ≤ j
    · rw [if_pos hj]; exact ⟨⟨by dsimp only; decide, by dsimp only; decide⟩, h0, h1⟩
    · rw [if_neg hj]
      by_cases hx : ch q = 120
      · rw [if_pos hx, hx]; exact gd_X hz h0 hlt
      · rw [if_neg hx]
        unfold pHead
        by_cases hw : ch q = 119
        · rw [if_pos hw]
          have g1 := gd_num (n := n) hz (lim := 4) (q := q + 1) (by omega) (by omega)
          cases hr : pNum ch 4 (q + 1) with
          | inl e => rw [hr] at g1; exact g1
          | inr r =>
            rw [hr] at g1
            exact gd_body hz h0 (by omega) g1.2 e hx (fun _ => pNum_rg hr)
        · rw [if_neg hw]
          exact gd_body hz (r := (q + 1, 0)) h0 (by show q < q + 1; omega) (by show q + 1 ≤ n; omega) e hx (fun y => absurd y hw)
  · rw [if_neg e]; exact ⟨⟨by dsimp only; decide, by dsimp only; decide⟩, h0, h1⟩
theorem gd_rules (hz : ∀ q : Int, n ≤ q → ch q = 0) : ∀ (m : Nat) (j q : Int), 0 ≤ q → q ≤ n → 0 ≤ n → match pRules ch n m j q with
    | .inl e => (1 ≤ e.1 ∧ e.1 ≤ 5) ∧ 0 ≤ e.2 ∧ e.2 ≤ n
    | .inr L => (∀ x ∈ L, Cok x) ∧ (j + m = 13 → 0 < m → (L.length : Int) + j ≤ 12)
  | 0, j, q, _, _, hn => ⟨⟨by dsimp only; decide, by dsimp only; decide⟩, Int.le_refl 0, hn⟩
  | m + 1, j, q, h0, h1, hn => by
    rw [pRules]
    have g := gd_clause hz (j := j) h0 h1
    cases hr : pClause ch n j q with
    | inl e => rw [hr] at g; exact g
    | inr r =>
      rw [hr] at g
      have hj : j < 12 := by
        by_cases y : 12 ≤ j
        · unfold pClause at hr
          by_cases e : isC (ch q) = true
          · rw [if_pos e, if_pos y] at hr; cases hr
          · rw [if_neg e] at hr; cases hr
        · omega
      dsimp only
      by_cases z : r.1 < n
      · rw [if_pos z]
        by_cases z2 : ch r.1 = 59
        · rw [if_pos z2]
          have g2 := gd_rules hz m (j + 1) (r.1 + 1) (by have := g.1; omega) (by omega) hn
          cases hr2 : pRules ch n m (j + 1) (r.1 + 1) with
          | inl e => rw [hr2] at g2; exact g2
          | inr L =>
            rw [hr2] at g2
            refine ⟨fun x hx => ?_, fun e _ => ?_⟩
            · rcases List.mem_cons.mp hx with rfl | hx
              · exact g.2
              · exact g2.1 x hx
            · have := g2.2 (by omega)
              rw [List.length_cons]
              by_cases y : 0 < m
              · have := this y; omega
              · omega
        · rw [if_neg z2]
          exact ⟨⟨by dsimp only; decide, by dsimp only; decide⟩, by have := g.1; show 0 ≤ r.1; omega, g.1.2⟩
      · rw [if_neg z]
        refine ⟨fun x hx => ?_, fun e _ => ?_⟩
        · rw [List.mem_singleton.mp hx]; exact g.2
        · rw [List.length_singleton]; omega
end GDC
