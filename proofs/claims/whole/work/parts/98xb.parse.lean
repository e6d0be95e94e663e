/-! rules are read: what is read -/
abbrev Rs : Type := Sum (Int × Int) (Int × GF)
def isD (c : Int) : Bool := decide (48 ≤ c ∧ c ≤ 57)
def isT (c : Int) : Bool := decide (c = 42 ∨ c = 47 ∨ c = 37)
def isP (c : Int) : Bool := decide (c = 43 ∨ c = 45)
def isG (c : Int) : Bool := decide (c = 60 ∨ c = 62 ∨ c = 61)
def isA (c : Int) : Bool := decide (c = 38)
def isO (c : Int) : Bool := decide (c = 124)
def dLoop (ch : Int → Int) : Nat → Int → Int → Sum (Int × Int) (Int × Int)
  | 0, q, v => if isD (ch q) = true then .inl (2, q) else .inr (q, v)
  | m + 1, q, v => if isD (ch q) = true then dLoop ch m (q + 1) (10 * v + ch q - 48) else .inr (q, v)
def pNum (ch : Int → Int) (lim q : Int) : Sum (Int × Int) (Int × Int) := if isD (ch q) = true then (match dLoop ch 6 q 0 with
  | .inl e => .inl e
  | .inr r => if lim < r.2 then .inl (3, q) else .inr r) else .inl (1, q)
def opLoop (ch : Int → Int) (op : Int → Bool) (F : Int → Rs) (cb : Int → GF → GF → GF) : Nat → Int → GF → Rs
  | 0, q, g => .inr (q, g)
  | m + 1, q, g => if op (ch q) = true then (match F (q + 1) with
    | .inl e => .inl e
    | .inr r => opLoop ch op F cb m r.1 (cb (ch q) g r.2)) else .inr (q, g)
def opSeq (ch : Int → Int) (n : Int) (op : Int → Bool) (F : Int → Rs) (cb : Int → GF → GF → GF) (q : Int) : Rs := match F q with
  | .inl e => .inl e
  | .inr r => opLoop ch op F cb (n - r.1).toNat r.1 r.2
def pTerm (ch : Int → Int) (n : Int) (F : Int → Rs) : Int → Rs := opSeq ch n isT F (fun c => bing (opx c))
def pSum (ch : Int → Int) (n : Int) (F : Int → Rs) : Int → Rs := opSeq ch n isP (pTerm ch n F) (fun c => bing (opx c))
def pPart (ch : Int → Int) (n : Int) (F : Int → Rs) : Int → Rs := opSeq ch n isA F (fun _ => andg)
def pCond (ch : Int → Int) (n : Int) (F : Int → Rs) : Int → Rs := opSeq ch n isO (pPart ch n F) (fun _ => org)
def pBase (ch : Int → Int) (q : Int) : Rs := if isD (ch q) = true then (match pNum ch 999999 q with
  | .inl e => .inl e
  | .inr r => .inr (r.1, fun _ => some r.2)) else if 0 ≤ fct (ch q) then .inr (q + 1, fun f => some (f (fct (ch q)))) else .inl (1, q)
/-- what is in brackets, and what closes them -/
def pIn (ch : Int → Int) (cl : Int) (S : Int → Rs) (q : Int) : Rs := match S (q + 1) with
  | .inl e => .inl e
  | .inr r => if ch r.1 = cl then .inr (r.1 + 1, r.2) else .inl (1, r.1)
def pFac (ch : Int → Int) (n : Int) : Nat → Int → Rs
  | 0, q => if ch q = 91 then .inl (5, q) else pBase ch q
  | k + 1, q => if ch q = 91 then pIn ch 93 (pSum ch n (pFac ch n k)) q else pBase ch q
def pCmp (ch : Int → Int) (S : Int → Rs) (q : Int) : Rs := match S q with
  | .inl e => .inl e
  | .inr r => if isG (ch r.1) = true then (match S (r.1 + 1) with
    | .inl e => .inl e
    | .inr r2 => .inr (r2.1, bing (opx (ch r.1)) r.2 r2.2)) else .inl (1, r.1)
def pNot (S : Int → Rs) (q : Int) : Rs := match S (q + 1) with
  | .inl e => .inl e
  | .inr r => .inr (r.1, notg r.2)
def pPiece (ch : Int → Int) (n : Int) : Nat → Int → Rs
  | 0, q => if ch q = 33 then .inl (5, q) else if ch q = 40 then .inl (5, q) else pCmp ch (pSum ch n (pFac ch n 0)) q
  | k + 1, q => if ch q = 33 then pNot (pPiece ch n k) q else if ch q = 40 then pIn ch 41 (pCond ch n (pPiece ch n k)) q else pCmp ch (pSum ch n (pFac ch n (k + 1))) q
/-- the parser goes on, its faults are faults, and what it reads is so -/
def gdR (n q : Int) (Z : GF → Prop) : Rs → Prop
  | .inl e => (1 ≤ e.1 ∧ e.1 ≤ 5) ∧ 0 ≤ e.2 ∧ e.2 ≤ n
  | .inr r => (q < r.1 ∧ r.1 ≤ n) ∧ Z r.2
def gdF (n : Int) (Z : GF → Prop) (F : Int → Rs) : Prop := ∀ q : Int, 0 ≤ q → q ≤ n → gdR n q Z (F q)
section GDF
variable {ch : Int → Int} {n : Int} {Z : GF → Prop}
theorem gd_loop (hz : ∀ q : Int, n ≤ q → ch q = 0) {op : Int → Bool} (h0 : op 0 = false) {F : Int → Rs} {cb : Int → GF → GF → GF} (hF : gdF n Z F) (hcb : ∀ c g1 g2, op c = true → Z g1 → Z g2 → Z (cb c g1 g2)) {q0 : Int} (hq0 : 0 ≤ q0) : ∀ (m : Nat) (q : Int) (g : GF), q0 < q → q ≤ n → Z g → gdR n q0 Z (opLoop ch op F cb m q g)
  | 0, q, g, h1, h2, h3 => ⟨⟨h1, h2⟩, h3⟩
  | m + 1, q, g, h1, h2, h3 => by
    rw [opLoop]
    by_cases e : op (ch q) = true
    · rw [if_pos e]
      have hq : q < n := by
        by_cases z : n ≤ q
        · rw [hz q z, h0] at e; cases e
        · omega
      have := hF (q + 1) (by omega) (by omega)
      cases hh : F (q + 1) with
      | inl e => rw [hh] at this; exact this
      | inr r =>
        rw [hh] at this
        exact gd_loop hz h0 hF hcb hq0 m r.1 _ (by have := this.1; omega) this.1.2 (hcb _ _ _ e h3 this.2)
    · rw [if_neg e]
      exact ⟨⟨h1, h2⟩, h3⟩
theorem gd_seq (hz : ∀ q : Int, n ≤ q → ch q = 0) {op : Int → Bool} (h0 : op 0 = false) {F : Int → Rs} {cb : Int → GF → GF → GF} (hF : gdF n Z F) (hcb : ∀ c g1 g2, op c = true → Z g1 → Z g2 → Z (cb c g1 g2)) : gdF n Z (opSeq ch n op F cb) := by
  intro q q0 q1
  have := hF q q0 q1
  unfold opSeq
  cases hh : F q with
  | inl e => rw [hh] at this; exact this
  | inr r =>
    rw [hh] at this
    exact gd_loop hz h0 hF hcb q0 _ r.1 _ this.1.1 this.1.2 this.2
def ZT : GF → Prop := fun _ => True
theorem gd_sum (hz : ∀ q : Int, n ≤ q → ch q = 0) {F : Int → Rs} (hF : gdF n ZT F) : gdF n ZT (pSum ch n F) :=
  gd_seq hz (by decide) (gd_seq hz (by decide) hF (fun _ _ _ _ _ _ => trivial)) (fun _ _ _ _ _ _ => trivial)
theorem gd_cond (hz : ∀ q : Int, n ≤ q → ch q = 0) {F : Int → Rs} (hF : gdF n BO F) : gdF n BO (pCond ch n F) :=
  gd_seq hz (by decide) (gd_seq hz (by decide) hF (fun _ _ _ _ h1 h2 => BO_and h1 h2)) (fun _ _ _ _ h1 h2 => BO_or h1 h2)
theorem gd_d (hz : ∀ q : Int, n ≤ q → ch q = 0) : ∀ (m : Nat) (q v : Int), 0 ≤ q → q ≤ n → match dLoop ch m q v with
    | .inl e => e.1 = 2 ∧ 0 ≤ e.2 ∧ e.2 ≤ n
    | .inr r => q ≤ r.1 ∧ r.1 ≤ n ∧ (isD (ch q) = true → 0 < m → q < r.1)
  | 0, q, v, h0, h1 => by
    rw [dLoop]
    by_cases e : isD (ch q) = true
    · rw [if_pos e]; exact ⟨rfl, h0, h1⟩
    · rw [if_neg e]; exact ⟨Int.le_refl q, h1, fun z => absurd z e⟩
  | m + 1, q, v, h0, h1 => by
    rw [dLoop]
    by_cases e : isD (ch q) = true
    · rw [if_pos e]
      have hq : q < n := by
        by_cases z : n ≤ q
        · rw [hz q z] at e; exact absurd e (by decide)
        · omega
      have := gd_d hz m (q + 1) (10 * v + ch q - 48) (by omega) (by omega)
      revert this
      cases dLoop ch m (q + 1) (10 * v + ch q - 48) with
      | inl e => exact id
      | inr r => exact fun h => ⟨by have := h.1; omega, h.2.1, fun _ _ => by have := h.1; omega⟩
    · rw [if_neg e]; exact ⟨Int.le_refl q, h1, fun z => absurd z e⟩
theorem gd_num (hz : ∀ q : Int, n ≤ q → ch q = 0) {lim q : Int} (h0 : 0 ≤ q) (h1 : q ≤ n) : match pNum ch lim q with
    | .inl e => (1 ≤ e.1 ∧ e.1 ≤ 5) ∧ 0 ≤ e.2 ∧ e.2 ≤ n
    | .inr r => q < r.1 ∧ r.1 ≤ n := by
  unfold pNum
  by_cases e : isD (ch q) = true
  · rw [if_pos e]
    have := gd_d (n := n) hz 6 q 0 h0 h1
    revert this
    cases dLoop ch 6 q 0 with
    | inl e => exact fun h => ⟨by have := h.1; show 1 ≤ e.1 ∧ e.1 ≤ 5; omega, h.2⟩
    | inr r =>
      intro h
      by_cases z : lim < r.2
      · dsimp only; rw [if_pos z]; exact ⟨⟨by dsimp only; decide, by dsimp only; decide⟩, h0, h1⟩
      · dsimp only; rw [if_neg z]; exact ⟨h.2.2 e (by decide), h.2.1⟩
  · rw [if_neg e]; exact ⟨⟨by dsimp only; decide, by dsimp only; decide⟩, h0, h1⟩
theorem gd_base (hz : ∀ q : Int, n ≤ q → ch q = 0) : gdF n ZT (pBase ch) := by
  intro q h0 h1
  unfold pBase
  by_cases e : isD (ch q) = true
  · rw [if_pos e]
    have := gd_num (n := n) hz (lim := 999999) h0 h1
    revert this
    cases pNum ch 999999 q with
    | inl e => exact id
    | inr r => exact fun h => ⟨h, trivial⟩
  · rw [if_neg e]
    by_cases z : 0 ≤ fct (ch q)
    · rw [if_pos z]
      refine ⟨⟨by show q < q + 1; omega, ?_⟩, trivial⟩
      show q + 1 ≤ n
      by_cases y : n ≤ q
      · rw [hz q y] at z; exact absurd z (by decide)
      · omega
    · rw [if_neg z]; exact ⟨⟨by dsimp only; decide, by dsimp only; decide⟩, h0, h1⟩
theorem gd_in (hz : ∀ q : Int, n ≤ q → ch q = 0) {cl : Int} (hcl : cl ≠ 0) {S : Int → Rs} (hS : gdF n Z S) {q : Int} (h0 : 0 ≤ q) (h1 : q < n) : gdR n q Z (pIn ch cl S q) := by
  unfold pIn
  have := hS (q + 1) (by omega) (by omega)
  cases hh : S (q + 1) with
  | inl e => rw [hh] at this; exact this
  | inr r =>
    rw [hh] at this
    have h3 := this.1
    by_cases z : ch r.1 = cl
    · dsimp only
      rw [if_pos z]
      refine ⟨⟨by show q < r.1 + 1; omega, ?_⟩, this.2⟩
      show r.1 + 1 ≤ n
      by_cases y : n ≤ r.1
      · rw [hz _ y] at z; exact absurd z.symm hcl
      · omega
    · dsimp only
      rw [if_neg z]
      exact ⟨⟨by dsimp only; decide, by dsimp only; decide⟩, by show 0 ≤ r.1; omega, h3.2⟩
theorem ch_lt (hz : ∀ q : Int, n ≤ q → ch q = 0) {q c : Int} (h : ch q = c) (hc : c ≠ 0) : q < n := by
  by_cases y : n ≤ q
  · rw [hz _ y] at h; exact absurd h.symm hc
  · omega
theorem gd_fac (hz : ∀ q : Int, n ≤ q → ch q = 0) : ∀ k : Nat, gdF n ZT (pFac ch n k)
  | 0 => by
    intro q h0 h1
    rw [pFac]
    by_cases e : ch q = 91
    · rw [if_pos e]; exact ⟨⟨by dsimp only; decide, by dsimp only; decide⟩, h0, h1⟩
    · rw [if_neg e]; exact gd_base hz q h0 h1
  | k + 1 => by
    intro q h0 h1
    rw [pFac]
    by_cases e : ch q = 91
    · rw [if_pos e]; exact gd_in hz (by decide) (gd_sum hz (gd_fac hz k)) h0 (ch_lt hz e (by decide))
    · rw [if_neg e]; exact gd_base hz q h0 h1
theorem gd_cmp (hz : ∀ q : Int, n ≤ q → ch q = 0) {S : Int → Rs} (hS : gdF n ZT S) : gdF n BO (pCmp ch S) := by
  intro q h0 h1
  unfold pCmp
  have := hS q h0 h1
  cases hh : S q with
  | inl e => rw [hh] at this; exact this
  | inr r =>
    rw [hh] at this
    have h3 := this.1
    by_cases z : isG (ch r.1) = true
    · dsimp only
      rw [if_pos z]
      have z2 : ch r.1 = 60 ∨ ch r.1 = 62 ∨ ch r.1 = 61 := of_decide_eq_true z
      have hlt : r.1 < n := by
        by_cases y : n ≤ r.1
        · rw [hz _ y] at z2; omega
        · omega
      have h4 := hS (r.1 + 1) (by omega) (by omega)
      cases hh2 : S (r.1 + 1) with
      | inl e => rw [hh2] at h4; exact h4
      | inr r2 =>
        rw [hh2] at h4
        refine ⟨⟨by have := h4.1; show q < r2.1; omega, h4.1.2⟩, BO_cmp ?_⟩
        rcases z2 with y | y | y
        · rw [y]; exact Or.inl rfl
        · rw [y]; exact Or.inr (Or.inl rfl)
        · rw [y]; exact Or.inr (Or.inr rfl)
    · dsimp only
      rw [if_neg z]
      exact ⟨⟨by dsimp only; decide, by dsimp only; decide⟩, by show 0 ≤ r.1; omega, h3.2⟩
theorem gd_piece (hz : ∀ q : Int, n ≤ q → ch q = 0) : ∀ k : Nat, gdF n BO (pPiece ch n k)
  | 0 => by
    intro q h0 h1
    rw [pPiece]
    by_cases e : ch q = 33
    · rw [if_pos e]; exact ⟨⟨by dsimp only; decide, by dsimp only; decide⟩, h0, h1⟩
    · rw [if_neg e]
      by_cases e2 : ch q = 40
      · rw [if_pos e2]; exact ⟨⟨by dsimp only; decide, by dsimp only; decide⟩, h0, h1⟩
      · rw [if_neg e2]; exact gd_cmp hz (gd_sum hz (gd_fac hz 0)) q h0 h1
  | k + 1 => by
    intro q h0 h1
    rw [pPiece]
    by_cases e : ch q = 33
    · rw [if_pos e]
      have hlt := ch_lt hz e (by decide)
      have := gd_piece hz k (q + 1) (by omega) (by omega)
      unfold pNot
      cases hh : pPiece ch n k (q + 1) with
      | inl e => rw [hh] at this; exact this
      | inr r =>
        rw [hh] at this
        exact ⟨⟨by have := this.1; show q < r.1; omega, this.1.2⟩, BO_not this.2⟩
    · rw [if_neg e]
      by_cases e2 : ch q = 40
      · rw [if_pos e2]; exact gd_in hz (by decide) (gd_cond hz (gd_piece hz k)) h0 (ch_lt hz e2 (by decide))
      · rw [if_neg e2]; exact gd_cmp hz (gd_sum hz (gd_fac hz (k + 1))) q h0 h1
end GDF
