/-! the money as it is, and what one line does to it -/
abbrev MS : Type := (Int → MP) × (Int → Int) × (Int → Int)
def fuP (P : Int → MP) (p : Int) (l : MP) : Int → MP := fun p' => if p' = p then l else P p'
theorem fuP_eq {P : Int → MP} {p : Int} {l : MP} : fuP P p l p = l := if_pos rfl
theorem fuP_ne {P : Int → MP} {p p' : Int} {l : MP} (h : p' ≠ p) : fuP P p l p' = P p' := if_neg h
/-- what a rule's clause may ask about a line -/
def facF (C : AS) (i : Int) (l : MP) : Int → Int := fun j =>
  if j = 0 then C 11 i else if j = 1 then C 13 i else if j = 2 then C 8 i else if j = 3 then C 9 i else if j = 4 then C 5 (C 9 i) else if j = 5 then psum l else if j = 6 then pof (C 5 (C 9 i)) l else cp (fun o => pof o l) 10
abbrev FD : Type := Int → Int → Int → Int → (Int → Int) → Int
def wayF (C : AS) (F : FD) (t : Int) (fo : Int → Int) (i : Int) (l : MP) : Int :=
  if fo (C 9 i) = -1 then (if F 119 (C 6 (C 9 i)) (C 13 i) t (facF C i l) = -1 then 0 else C 31 (F 119 (C 6 (C 9 i)) (C 13 i) t (facF C i l))) else fo (C 9 i)
def endF (C : AS) (F : FD) (t i : Int) (l : MP) : Int := if C 8 i = 1 ∧ C 12 i ≠ 0 ∧ F 103 (C 6 (C 10 i)) (C 13 i) t (facF C i l) ≠ -1 then 1 else 0
def risF (C : AS) (F : FD) (t i : Int) (l : MP) : Int := if C 8 i = 4 ∧ F 114 (C 6 (C 9 i)) (C 13 i) t (facF C i l) ≠ -1 then 1 else 0
def tkD (k : Int) : Bool := decide (k = 1) || decide (k = 2) || decide (k = 3)
theorem tkD_iff {k : Int} : tkD k = true ↔ k = 1 ∨ k = 2 ∨ k = 3 := by unfold tkD; simp [or_assoc]
def knS (C : AS) (a b dy t i : Int) : Bool := (rl (C 19 4 - i) (fun j => decide (C 20 (i + j) = a ∧ C 21 (i + j) = b ∧ C 22 (i + j) ≤ dy ∧ C 23 (i + j) ≤ t))).any id
def mvT (C : AS) (t i e : Int) (tk : MP) : MP := tk.map (fun x => (if e ≠ 0 ∧ knS C (C 5 (C 10 i)) x.1 (C 13 i) t 0 = false then C 5 (C 10 i) else x.1, x.2))
def addR (f : Int → Int) (b : Int) (g : Int → Int) : Int → Int := fun c => if b ≤ c ∧ c < b + 10 then f c + g (c - b) else f c
def gaiF (ri s h : Int) (w : Int → Int) (x : Int) : Int :=
  if ri ≠ 0 ∧ 0 < sm w 10 then pq s w 10 x else if x = h then max 0 (s - (sm w 10 - w h)) else if sm (fu w h 0) 10 = 0 then 0 else pq (min s (sm w 10 - w h)) (fu w h 0) 10 x
def shF (C : AS) (i : Int) (m : MS) : Int → Int := fun x => m.2.1 (10 * C 10 i + x)
def bkF (C : AS) (i : Int) (m : MS) : Int := min (C 11 i) (m.2.2 (10 * C 9 i + C 10 i))
def twF (C : AS) (F : FD) (t : Int) (fo : Int → Int) (i : Int) (m : MS) : MP × MP := takeW (wayF C F t fo i (m.1 (C 9 i))) (C 11 i) (C 5 (C 9 i)) (m.1 (C 9 i))
def gnF (C : AS) (F : FD) (t i : Int) (m : MS) : Int → Int := gaiF (risF C F t i (m.1 (C 9 i))) (C 11 i) (C 5 (C 9 i)) (shF C i m)
def mfail (C : AS) (i : Int) (m : MS) : Bool := tkD (C 8 i) && decide (psum (m.1 (C 9 i)) < C 11 i)
def mact (C : AS) (F : FD) (t : Int) (fo : Int → Int) (i : Int) (m : MS) : MS :=
  if tkD (C 8 i) = true then
    if psum (m.1 (C 9 i)) < C 11 i then m
    else if C 8 i = 1 then (fuP (fuP m.1 (C 9 i) (layAll [] (twF C F t fo i m).1)) (C 10 i) (layAll (m.1 (C 10 i)) (mvT C t i (endF C F t i (m.1 (C 9 i))) (twF C F t fo i m).2)), m.2.1, m.2.2)
    else if C 8 i = 2 then (fuP m.1 (C 9 i) (layAll [] (twF C F t fo i m).1), m.2.1, addR m.2.2 (10 * C 9 i) (fun x => if x = C 5 (C 9 i) then 0 else pof x (twF C F t fo i m).2))
    else (fuP m.1 (C 9 i) (layAll [] (twF C F t fo i m).1), addR m.2.1 (10 * C 10 i) (fun x => pof x (twF C F t fo i m).2), m.2.2)
  else if C 8 i = 0 then (fuP m.1 (C 9 i) (lay (m.1 (C 9 i)) (C 10 i) (C 11 i)), m.2.1, m.2.2)
  else if C 8 i = 4 then (fuP m.1 (C 9 i) (layAll (m.1 (C 9 i)) (rl 10 (fun x => (x, gnF C F t i m x)))), (fun c => if 10 * C 10 i ≤ c ∧ c < 10 * C 10 i + 10 then 0 else m.2.1 c), m.2.2)
  else (fuP m.1 (C 9 i) (lay (lay (m.1 (C 9 i)) (C 10 i) (bkF C i m)) (C 5 (C 9 i)) (C 11 i - bkF C i m)), m.2.1, fu m.2.2 (10 * C 9 i + C 10 i) (m.2.2 (10 * C 9 i + C 10 i) - bkF C i m))
def mgot (C : AS) (F : FD) (t : Int) (fo : Int → Int) (i : Int) (m : MS) (x : Int) : Int :=
  if tkD (C 8 i) = true then pof x (twF C F t fo i m).2
  else if C 8 i = 0 then (if x = C 10 i then C 11 i else 0)
  else if C 8 i = 4 then gnF C F t i m x
  else (if x = C 10 i then bkF C i m else 0) + (if x = C 5 (C 9 i) then C 11 i - bkF C i m else 0)
def mst (m : MS) : Int := sm (fun p => ((m.1 p).length : Int)) 10
def MI (k : Int) (m : MS) : Prop := (0 ≤ k ∧ k ≤ 100) ∧ (∀ p : Int, 0 ≤ p → p < 10 → pok (m.1 p) ∧ clean (m.1 p) ∧ psum (m.1 p) ≤ 1000000 * k) ∧ mst m ≤ 10 * k ∧ ∀ c : Int, 0 ≤ c → c < 100 → (0 ≤ m.2.1 c ∧ m.2.1 c ≤ 1000000 * k) ∧ (0 ≤ m.2.2 c ∧ m.2.2 c ≤ 1000000 * k)
/-- a line as it stands in the book -/
def lv (C : AS) (i : Int) : Prop := (0 ≤ i ∧ i < 100) ∧ (0 ≤ C 8 i ∧ C 8 i ≤ 5) ∧ (0 ≤ C 9 i ∧ C 9 i < 10) ∧ (1 ≤ C 11 i ∧ C 11 i ≤ 1000000) ∧ (C 8 i ≠ 2 → 0 ≤ C 10 i ∧ C 10 i < 10) ∧ (C 8 i = 1 → C 10 i ≠ C 9 i) ∧ ∀ p : Int, 0 ≤ p → p < 10 → 0 ≤ C 5 p ∧ C 5 p < 10
def RX (m : MS) (σ : AS) : Prop := XW σ ∧ (∀ p : Int, 0 ≤ p → p < 10 → xp σ p = m.1 p) ∧ (∀ c : Int, 0 ≤ c → c < 100 → σ 46 c = m.2.1 c) ∧ (∀ c : Int, 0 ≤ c → c < 100 → σ 47 c = m.2.2 c)
/-- the cells in which class and model play -/
def wkX : List Nat := [36, 37, 38, 42, 43, 44, 45, 46, 47, 48, 49, 50, 51, 52, 54, 55, 56, 57, 58, 59, 60, 61, 62, 63, 64, 65, 66, 67, 68, 73, 74, 75, 80, 81, 113, 114, 115, 116, 117, 118, 119, 120, 121, 122, 123, 124, 125, 126, 127, 128, 138]
def wkF : List (Nat × Int) := [(41, 3), (41, 9), (40, 7), (40, 9), (40, 10), (40, 11), (40, 12), (40, 13), (40, 14), (53, 3), (69, 2), (69, 3), (69, 4), (69, 5), (69, 6), (70, 9), (70, 10), (82, 54), (82, 63), (82, 65), (82, 66), (82, 67), (82, 75), (82, 76)]
/-- the cells in which the class alone plays -/
def clX : List Nat := [36, 37, 38, 42, 43, 44, 45, 46, 47, 48, 49, 50, 51, 52, 54, 55, 56, 57, 58, 59, 60, 61, 62, 63, 64, 65, 66, 67, 68]
def clF : List (Nat × Int) := [(41, 3), (41, 9), (40, 7), (40, 9), (40, 10), (40, 11), (40, 12), (40, 13), (40, 14), (53, 3)]
/-- the class's book of rules answers so -/
def ruX (Ln : Int) (C : AS) (F : FD) : Prop := ∀ (d : Nat) (σ : AS) (l la dy t : Int) (f : Int → Int), (l = 114 ∨ l = 119 ∨ l = 103) → Fr wkX wkF C σ → (∀ j : Int, 0 ≤ j → j < 8 → σ 38 j = f j) →
  am_M Ln (d + 3) 49 [vR 24, vI l, vI la, vI dy, vI t] σ (am_rI fun r σ' => r = F l la dy t f ∧ (-1 ≤ r ∧ r < 240) ∧ (l = 119 → r ≠ -1 → 0 ≤ C 31 r ∧ C 31 r ≤ 4) ∧ Fr [36, 37] [] σ σ')
theorem sp_takes {Ln : Int} {d : Nat} {σ : AS} {i : Int} (h : 0 ≤ i ∧ i < 100) : am_M Ln (d + 1) 22 [vR 7, vI i] σ (am_rI fun r σ' => r = (if tkD (σ 8 i) = true then 1 else 0) ∧ σ' = σ) := by
  refine vm_X3_takes _ _ ⟨h, fun e => ⟨am_b1, ?_, rfl⟩, fun e1 => ⟨h, fun e => ⟨am_b1, ?_, rfl⟩, fun e2 => ⟨h, fun e => ⟨am_b1, ?_, rfl⟩, fun e3 => ⟨am_b0, ?_, rfl⟩⟩⟩⟩
  · rw [if_pos (tkD_iff.mpr (Or.inl e))]
  · rw [if_pos (tkD_iff.mpr (Or.inr (Or.inl e)))]
  · rw [if_pos (tkD_iff.mpr (Or.inr (Or.inr e)))]
  · rw [if_neg (fun q => by rcases tkD_iff.mp q with z | z | z; exact e1 z; exact e2 z; exact e3 z)]
theorem lp_knew {Ln : Int} {d : Nat} {a b dy t : Int} {σ : AS} (hz : σ 19 4 ≤ 100) : ∀ (m : Nat) (i : Int), 0 ≤ i → (σ 19 4 - i).toNat = m →
    am_E Ln d 16 3 [vR 19, vI a, vI b, vI dy, vI t, vI i] [] σ (am_rI fun r σ' => r = (if knS σ a b dy t i = true then 1 else 0) ∧ σ' = σ) := by
  intro m
  induction m with
  | zero =>
    intro i h0 hm
    refine vl_X2_knew_3 _ _ _ _ _ _ ⟨fun hx => ⟨am_b0, ?_, rfl⟩, fun h => absurd (by omega) h⟩
    unfold knS
    rw [rl_neg _ (by omega)]
    rfl
  | succ m ih =>
    intro i h0 hm
    have hlt : i < σ 19 4 := by omega
    have key : knS σ a b dy t i = (decide (σ 20 i = a ∧ σ 21 i = b ∧ σ 22 i ≤ dy ∧ σ 23 i ≤ t) || knS σ a b dy t (i + 1)) := by
      unfold knS
      rw [rl_cons _ (by omega), List.any_cons, Int.add_zero]
      congr 1
      rw [show σ 19 4 - i - 1 = σ 19 4 - (i + 1) by omega]
      congr 1
      exact rl_congr fun j _ _ => by rw [show i + (j + 1) = i + 1 + j by omega]
    have nx : (¬ (σ 20 i = a ∧ σ 21 i = b ∧ σ 22 i ≤ dy ∧ σ 23 i ≤ t)) → am_E Ln d 16 3 [vR 19, vI a, vI b, vI dy, vI t, vI (w32 (i + 1))] [] σ (am_rI fun r σ' => r = (if knS σ a b dy t i = true then 1 else 0) ∧ σ' = σ) := by
      intro hn
      rw [w32_id (by omega) (by omega), key, decide_eq_false hn, Bool.false_or]
      exact ih (i + 1) (by omega) (by omega)
    refine vl_X2_knew_3 _ _ _ _ _ _ ⟨fun h => absurd h (by omega), fun _ => ⟨⟨h0, by omega⟩, fun h1 => ⟨⟨h0, by omega⟩, fun h2 => ⟨⟨h0, by omega⟩, fun h3 => nx (by omega), fun h3 => ⟨⟨h0, by omega⟩, fun h4 => nx (by omega), fun h4 => ⟨am_b1, ?_, rfl⟩⟩⟩, fun h2 => nx (fun q => h2 q.2.1)⟩, fun h1 => nx (fun q => h1 q.1)⟩⟩
    rw [key, decide_eq_true ⟨h1, h2, by omega, by omega⟩]
    rfl
theorem sp_knew {Ln : Int} {d : Nat} {a b dy t : Int} {σ : AS} (hz : σ 19 4 ≤ 100) : am_M Ln (d + 1) 16 [vR 19, vI a, vI b, vI dy, vI t] σ (am_rI fun r σ' => r = (if knS σ a b dy t 0 = true then 1 else 0) ∧ σ' = σ) := vm_X2_knew _ _ _ _ _ (lp_knew hz _ 0 (by omega) rfl)
theorem RX_T {m : MS} {k : Int} {σ : AS} (h : RX m σ) (hm : MI k m) (h9 : 0 ≤ σ 41 9) : XT σ := XW_T h.1 (fun p a b => by have := (hm.2.1 p a b).2.2; have := hm.1; rw [h.2.1 p a b]; omega) h9
theorem lp_facts {Ln : Int} {d : Nat} : ∀ (m : Nat) (k : Nat) (σ : AS), k + m = 10 →
    am_E Ln d 38 143 [vR 40, vU, vU, vU, vI (cp (σ 51) k), vI (k : Int)] [] σ (am_rV fun σ' => σ' = am_up σ 38 7 (cp (σ 51) 10)) := by
  intro m
  induction m with
  | zero =>
    intro k σ hk
    obtain rfl : k = 10 := by omega
    exact vl_X6_gatherFacts_143 _ _ _ ⟨fun _ => ⟨by omega, rfl⟩, fun h => absurd (by omega) h⟩
  | succ m ih =>
    intro k σ hk
    have hc : ∀ n : Nat, 0 ≤ cp (σ 51) n ∧ cp (σ 51) n ≤ n := by
      intro n
      induction n with
      | zero => exact ⟨Int.le_refl 0, Int.le_refl 0⟩
      | succ n ih => rw [cp]; split <;> omega
    have h1 := hc k
    have key := ih (k + 1) σ (by omega)
    rw [cp, show ((k + 1 : Nat) : Int) = (k : Int) + 1 by omega] at key
    refine vl_X6_gatherFacts_143 _ _ _ ⟨fun h => absurd h (by omega), fun _ => ⟨⟨by omega, by omega⟩, fun h => ?_, fun h => ?_⟩⟩
    · rw [if_neg (by omega), Int.add_zero] at key
      rw [w32_id (by omega) (by omega)]
      exact key
    · rw [if_pos (by omega)] at key
      rw [w32_id (by omega) (by omega), w32_id (by omega) (by omega)]
      exact key
theorem sp_gatherFacts {Ln : Int} {d : Nat} {σ : AS} {m : MS} {k i : Int} (hr : RX m σ) (hm : MI k m) (h9 : 0 ≤ σ 41 9) (hl : lv σ i) :
    am_M Ln (d + 3) 38 [vR 40, vI i] σ (am_rV fun σ' => Fr [38, 51] [] σ σ' ∧ ∀ j : Int, 0 ≤ j → j < 8 → σ' 38 j = facF σ i (m.1 (σ 9 i)) j) := by
  obtain ⟨l1, l2, l3, l4, l5, l6, l7⟩ := hl
  have h5 := l7 _ l3.1 l3.2
  have hp := (hm.2.1 _ l3.1 l3.2).2.2
  have hk := hm.1
  refine vm_X6_gatherFacts _ _ ⟨l1, l3, l1, by omega, l1, by omega, l1, by omega, by omega, by omega, ?_⟩
  obtain ⟨τ, hτ⟩ : ∃ τ, τ = am_up (am_up (am_up (am_up (am_up σ 38 0 (σ 11 i)) 38 1 (σ 13 i)) 38 2 (σ 8 i)) 38 3 (σ 9 i)) 38 4 (σ 5 (σ 9 i)) := ⟨_, rfl⟩
  rw [← hτ]
  have e : ∀ c : Nat, c ≠ 38 → τ c = σ c := fun c hc => by rw [hτ, am_up_ne hc, am_up_ne hc, am_up_ne hc, am_up_ne hc, am_up_ne hc]
  have exp' : ∀ p', xp τ p' = xp σ p' := fun p' => by unfold xp xl; rw [e 41 (by decide), e 42 (by decide), e 43 (by decide), e 44 (by decide)]
  have hT : XT τ := by unfold XT; rw [e 41 (by decide), e 42 (by decide), e 43 (by decide), e 44 (by decide)]; exact RX_T hr hm h9
  have exq := hr.2.1 _ l3.1 l3.2
  refine cI (sp_measure hT (by rw [exp', exq]; omega)) ?_
  rintro r s ⟨k1, k2, k3⟩
  rw [exp', exq] at k1 k3
  refine ⟨by omega, h5, by omega, ?_⟩
  obtain ⟨ρ, hρ⟩ : ∃ ρ, ρ = am_up (am_up s 38 5 r) 38 6 (s 51 (σ 5 (σ 9 i))) := ⟨_, rfl⟩
  rw [← hρ]
  refine am_EV (lp_facts 10 0 ρ (by omega)) ?_
  rintro s2 rfl
  have e51 : ρ 51 = s 51 := by rw [hρ, am_up_ne (by decide), am_up_ne (by decide)]
  have e38 : s 38 = τ 38 := k2.cell 38 (by decide)
  refine ⟨?_, fun j a b => ?_⟩
  · refine Fr.up ?_ (Or.inl (by decide))
    rw [hρ]
    refine Fr.up (Fr.up (Fr.tr (σ1 := τ) ?_ (k2.mo (by decide) (by decide))) (Or.inl (by decide))) (Or.inl (by decide))
    rw [hτ]
    exact Fr.up (Fr.up (Fr.up (Fr.up (Fr.up Fr.rf (Or.inl (by decide))) (Or.inl (by decide))) (Or.inl (by decide))) (Or.inl (by decide))) (Or.inl (by decide))
  · rw [am_up_eq]
    have ecp : cp (ρ 51) 10 = cp (fun o => pof o (m.1 (σ 9 i))) 10 := cp_congr (fun o x y => by rw [e51, k3 o x (by omega)])
    unfold facF
    by_cases j7 : j = 7
    · rw [if_pos j7, ecp]; subst j7; rfl
    · rw [if_neg j7, hρ, am_up_eq]
      by_cases j6 : j = 6
      · subst j6; rw [if_pos rfl, k3 _ h5.1 h5.2]; rfl
      · rw [if_neg j6, am_up_eq]
        by_cases j5 : j = 5
        · subst j5; rw [if_pos rfl, k1]; rfl
        · rw [if_neg j5, e38, hτ, am_up_eq, am_up_eq, am_up_eq, am_up_eq, am_up_eq]
          have : j = 0 ∨ j = 1 ∨ j = 2 ∨ j = 3 ∨ j = 4 := by omega
          rcases this with rfl | rfl | rfl | rfl | rfl <;> rfl
