/-! the next order, as the class goes to it; the next tuple, as the model turns -/
def fdI (t : List Nat) : Nat → Option Nat
  | 0 => none
  | m + 1 => match Nat.ble (t.getD m 0) (t.getD (m + 1) 0) with
    | true => some m
    | false => fdI t m
def fdJ (t : List Nat) (i : Nat) : Nat → Nat
  | 0 => 0
  | m + 1 => match Nat.ble (m + 1) i with
    | true => m + 1
    | false => match Nat.ble (t.getD i 0) (t.getD (m + 1) 0) with
      | true => m + 1
      | false => fdJ t i m
def swp (t : List Nat) (i j : Nat) : List Nat := (t.set i (t.getD j 0)).set j (t.getD i 0)
def rvs : Nat → List Nat → Nat → Nat → List Nat
  | 0, t, _, _ => t
  | f + 1, t, lo, hi => match Nat.ble hi lo with
    | true => t
    | false => rvs f (swp t lo hi) (lo + 1) (hi - 1)
def goN (n : Nat) (t : List Nat) : Option (List Nat) := match fdI t (n - 1) with
  | none => none
  | some i => some (rvs n (swp t i (fdJ t i (n - 1))) (i + 1) (n - 1))
def seqG (n : Nat) : Nat → List Nat → List (List Nat)
  | 0, _ => []
  | k + 1, p => p :: (match goN n p with
    | some q => seqG n k q
    | none => [])
theorem seqG_L : ∀ n : Fin 7, seqG n.val 720 (List.range n.val) = seqL 720 (List.range n.val) := by decide +kernel
def tnx (n : Nat) : Nat → List Nat → Option (List Nat)
  | 0, _ => none
  | m + 1, t => match Nat.beq (t.getD m 0) (n - 1) with
    | true => tnx n m (t.set m 0)
    | false => some (t.set m (t.getD m 0 + 1))
def lnk (g : List Nat → Option (List Nat)) : List (List Nat) → Option (List Nat) → Prop
  | [], _ => True
  | x :: r, nx => g x = (r ++ nx.toList).head? ∧ lnk g r nx
theorem lnk_app {g : List Nat → Option (List Nat)} {nx : Option (List Nat)} : ∀ {A B : List (List Nat)}, lnk g A ((B ++ nx.toList).head?) → lnk g B nx → lnk g (A ++ B) nx
  | [], _, _, h => h
  | x :: r, B, h, h2 => by
    obtain ⟨h0, h1⟩ := h
    refine ⟨?_, lnk_app h1 h2⟩
    rw [h0]
    cases r with
    | cons y r => rfl
    | nil =>
      show ((B ++ nx.toList).head?).toList.head? = (B ++ nx.toList).head?
      cases (B ++ nx.toList) <;> rfl
def zfl : Nat → List Nat → List Nat
  | 0, t => t
  | m + 1, t => zfl m (t.set m 0)
theorem tnx_cons {n a : Nat} : ∀ (m : Nat) (t : List Nat), tnx n (m + 1) (a :: t) = match tnx n m t with
    | some t' => some (a :: t')
    | none => match Nat.beq a (n - 1) with
      | true => none
      | false => some ((a + 1) :: zfl m t)
  | 0, t => by
    rw [tnx, tnx, tnx]
    show (match Nat.beq a (n - 1) with
      | true => none
      | false => some ((a :: t).set 0 (a + 1))) = _
    cases Nat.beq a (n - 1) <;> rfl
  | m + 1, t => by
    rw [tnx]
    show (match Nat.beq (t.getD m 0) (n - 1) with
      | true => tnx n (m + 1) (a :: t.set m 0)
      | false => some (a :: t.set m (t.getD m 0 + 1))) = _
    rw [tnx_cons m (t.set m 0)]
    rw [show tnx n (m + 1) t = (match Nat.beq (t.getD m 0) (n - 1) with
      | true => tnx n m (t.set m 0)
      | false => some (t.set m (t.getD m 0 + 1))) from rfl]
    cases Nat.beq (t.getD m 0) (n - 1) with
    | true => rfl
    | false => rfl
theorem zfl_rep : ∀ (m : Nat) (t : List Nat), m ≤ t.length → zfl m t = List.replicate m 0 ++ t.drop m
  | 0, t, _ => rfl
  | m + 1, t, h => by
    rw [zfl, zfl_rep m (t.set m 0) (by rw [List.length_set]; omega)]
    apply List.ext_getElem?
    intro i
    rw [List.getElem?_append, List.getElem?_append, List.getElem?_drop, List.getElem?_drop, List.getElem?_set, List.length_replicate, List.length_replicate, List.getElem?_replicate, List.getElem?_replicate]
    by_cases h1 : i < m
    · rw [if_pos h1, if_pos h1, if_pos (by omega), if_pos (by omega)]
    · rw [if_neg h1]
      by_cases h2 : i = m
      · rw [if_pos (by omega), if_pos (by omega), if_pos (by omega), if_pos (by omega)]
      · rw [if_neg (by omega), if_neg (by omega)]
        congr 1
        omega
theorem lnk_map {n k s : Nat} {nx : Option (List Nat)} (hnx : nx = match Nat.beq s (n - 1) with
      | true => none
      | false => some ((s + 1) :: List.replicate k 0)) : ∀ {T : List (List Nat)}, (∀ x ∈ T, x.length = k) → lnk (tnx n k) T none → lnk (tnx n (k + 1)) (T.map (fun t => s :: t)) nx
  | [], _, _ => trivial
  | x :: r, hl, h => by
    obtain ⟨h0, h1⟩ := h
    refine ⟨?_, lnk_map hnx (fun y hy => hl y (List.mem_cons_of_mem _ hy)) h1⟩
    rw [tnx_cons, h0]
    cases r with
    | cons y r => rfl
    | nil =>
      have hx := hl x List.mem_cons_self
      rw [zfl_rep k x (by omega), List.drop_of_length_le (by omega), List.append_nil]
      show (match Nat.beq s (n - 1) with
      | true => none
      | false => some ((s + 1) :: List.replicate k 0)) = (nx.toList).head?
      rw [← hnx]
      cases nx <;> rfl
theorem tups_lnk {n : Nat} : ∀ k : Nat, (k = 0 ∨ 1 ≤ n) → lnk (tnx n k) (tups n k) none ∧ (tups n k).head? = some (List.replicate k 0)
  | 0, _ => ⟨⟨rfl, trivial⟩, rfl⟩
  | k + 1, h => by
    obtain ⟨i1, i2⟩ := tups_lnk (n := n) k (by omega)
    have hl : ∀ x ∈ tups n k, x.length = k := fun x hx => (tups_mem.mp hx).1
    have hd : ∀ a : Nat, ((tups n k).map (fun t => a :: t)).head? = some (a :: List.replicate k 0) := by
      intro a
      rw [List.head?_map, i2]
      rfl
    have hd2 : ∀ (a : Nat) (B : List (List Nat)), ((tups n k).map (fun t => a :: t) ++ B).head? = some (a :: List.replicate k 0) := by
      intro a B
      rw [List.head?_append, hd]
      rfl
    have key : ∀ len s : Nat, s + len = n → lnk (tnx n (k + 1)) ((List.range' s len).flatMap (fun a => (tups n k).map (fun t => a :: t))) none := by
      intro len
      induction len with
      | zero => intro s _; exact trivial
      | succ len ih =>
        intro s hs
        rw [List.range'_succ, List.flatMap_cons]
        refine lnk_app (lnk_map (n := n) (k := k) (s := s) ?_ hl i1) (ih (s + 1) (by omega))
        cases len with
        | zero =>
          rw [show Nat.beq s (n - 1) = true by rw [show n - 1 = s by omega]; exact Nat.beq_refl s]
          rfl
        | succ len =>
          rw [List.range'_succ, List.flatMap_cons, List.append_assoc, hd2]
          cases hb : Nat.beq s (n - 1) with
          | true => have := Nat.eq_of_beq_eq_true hb; omega
          | false => rfl
    rw [tups, List.range_eq_range']
    refine ⟨key n 0 (by omega), ?_⟩
    obtain ⟨m, rfl⟩ : ∃ m, n = m + 1 := ⟨n - 1, by omega⟩
    rw [List.range'_succ, List.flatMap_cons, hd2]
    rfl
theorem seqG_all {n : Nat} (h : n ≤ 6) : seqG n 720 (List.range n) = (tups n n).filter ndB := by
  have h1 := seqG_L ⟨n, by omega⟩
  have h2 : seqL 720 (List.range n) = (tups n n).filter ndB := by
    by_cases e : n = 6
    · subst e; exact seq_tups6
    · exact seq_tups ⟨n, by omega⟩
  exact h1.trans h2
