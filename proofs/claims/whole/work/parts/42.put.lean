/-! parts of purses, as lists; putting one -/
abbrev MP : Type := List (Int × Int)
def psum : MP → Int
  | [] => 0
  | q :: r => q.2 + psum r
def pof (o : Int) : MP → Int
  | [] => 0
  | q :: r => (if q.1 = o then q.2 else 0) + pof o r
theorem psum_app : ∀ (a b : MP), psum (a ++ b) = psum a + psum b
  | [], b => by simp [psum]
  | q :: r, b => by rw [List.cons_append, psum, psum, psum_app r b]; omega
theorem pof_app {o : Int} : ∀ (a b : MP), pof o (a ++ b) = pof o a + pof o b
  | [], b => by simp [pof]
  | q :: r, b => by rw [List.cons_append, pof, pof, pof_app r b]; omega
/-- each part is of one of ten persons, and not empty -/
def pok (l : MP) : Prop := ∀ q ∈ l, 0 ≤ q.1 ∧ q.1 < 10 ∧ 0 < q.2
theorem pok_app {a b : MP} (h1 : pok a) (h2 : pok b) : pok (a ++ b) := fun q hq => (List.mem_append.mp hq).elim (h1 q) (h2 q)
theorem pok_nil : pok [] := fun q hq => by cases hq
theorem pok_cons {q : Int × Int} {r : MP} (h : 0 ≤ q.1 ∧ q.1 < 10 ∧ 0 < q.2) (h2 : pok r) : pok (q :: r) := fun x hx => by
  rcases List.mem_cons.mp hx with e | e
  · rw [e]; exact h
  · exact h2 x e
theorem psum_nn : ∀ {l : MP}, (∀ q ∈ l, 0 ≤ q.2) → 0 ≤ psum l
  | [], _ => Int.le_refl 0
  | q :: r, h => by
    have h1 := h q List.mem_cons_self
    have h2 := psum_nn (l := r) (fun x hx => h x (List.mem_cons_of_mem _ hx))
    rw [psum]
    omega
theorem pof_nn {o : Int} : ∀ {l : MP}, (∀ q ∈ l, 0 ≤ q.2) → 0 ≤ pof o l ∧ pof o l ≤ psum l
  | [], _ => ⟨Int.le_refl 0, Int.le_refl 0⟩
  | q :: r, h => by
    have h1 := h q List.mem_cons_self
    have h2 := pof_nn (o := o) (l := r) (fun x hx => h x (List.mem_cons_of_mem _ hx))
    rw [psum, pof]
    split <;> omega
theorem psum_mem {l : MP} (h : ∀ q ∈ l, 0 ≤ q.2) : ∀ q ∈ l, q.2 ≤ psum l := by
  induction l with
  | nil => intro q hq; cases hq
  | cons a r ih =>
    intro q hq
    have h1 := h a List.mem_cons_self
    have h2 := psum_nn (l := r) (fun x hx => h x (List.mem_cons_of_mem _ hx))
    rw [psum]
    rcases List.mem_cons.mp hq with e | e
    · rw [e]; omega
    · have := ih (fun x hx => h x (List.mem_cons_of_mem _ hx)) q e
      omega
theorem pok_nn {l : MP} (h : pok l) : ∀ q ∈ l, 0 ≤ q.2 := fun q hq => by have := (h q hq).2.2; omega
/-- a part behind all: joined with the last, if that is of the same person -/
def layR : MP → Int → Int → MP
  | [], o, s => [(o, s)]
  | [q], o, s => if q.1 = o then [(q.1, q.2 + s)] else [q, (o, s)]
  | q :: q' :: r, o, s => q :: layR (q' :: r) o s
def lay (l : MP) (o s : Int) : MP := if s ≤ 0 then l else layR l o s
theorem layR_app : ∀ (a : MP) (q : Int × Int) (o s : Int), layR (a ++ [q]) o s = a ++ (if q.1 = o then [(q.1, q.2 + s)] else [q, (o, s)])
  | [], q, o, s => by rw [List.nil_append, List.nil_append, layR]
  | [a], q, o, s => by
    show layR (a :: q :: []) o s = _
    rw [layR, layR]
    rfl
  | a :: a' :: r, q, o, s => by
    show layR (a :: a' :: (r ++ [q])) o s = _
    rw [layR, show a' :: (r ++ [q]) = (a' :: r) ++ [q] from rfl, layR_app (a' :: r) q o s]
    rfl
theorem layR_nil (o s : Int) : layR [] o s = [(o, s)] := rfl
theorem layR_psum (l : MP) (o s : Int) : psum (layR l o s) = psum l + s := by
  rcases List.eq_nil_or_concat l with e | ⟨a, q, e⟩
  · rw [e, layR_nil]; simp [psum]
  · rw [e, List.concat_eq_append, layR_app, psum_app, psum_app]
    split <;> simp [psum] <;> omega
theorem layR_pof (l : MP) (o s x : Int) : pof x (layR l o s) = pof x l + (if o = x then s else 0) := by
  rcases List.eq_nil_or_concat l with e | ⟨a, q, e⟩
  · rw [e, layR_nil]; simp [pof]
  · rw [e, List.concat_eq_append, layR_app, pof_app, pof_app]
    by_cases h : q.1 = o
    · rw [if_pos h]
      simp only [pof]
      rw [h]
      split <;> omega
    · rw [if_neg h]
      simp only [pof]
      split <;> split <;> omega
theorem layR_len (l : MP) (o s : Int) : (layR l o s).length ≤ l.length + 1 := by
  rcases List.eq_nil_or_concat l with e | ⟨a, q, e⟩
  · rw [e, layR_nil]; simp
  · rw [e, List.concat_eq_append, layR_app]
    split <;> simp
theorem layR_pok {l : MP} {o s : Int} (h : pok l) (ho : 0 ≤ o ∧ o < 10) (hs : 0 < s) : pok (layR l o s) := by
  rcases List.eq_nil_or_concat l with e | ⟨a, q, e⟩
  · rw [e, layR_nil]; exact pok_cons ⟨ho.1, ho.2, hs⟩ pok_nil
  · rw [e, List.concat_eq_append] at h ⊢
    have h1 : pok a := fun x hx => h x (List.mem_append.mpr (Or.inl hx))
    have h2 := h q (List.mem_append.mpr (Or.inr List.mem_cons_self))
    rw [layR_app]
    refine pok_app h1 ?_
    split
    · exact pok_cons ⟨h2.1, h2.2.1, by show 0 < q.2 + s; omega⟩ pok_nil
    · exact pok_cons h2 (pok_cons ⟨ho.1, ho.2, hs⟩ pok_nil)
theorem lay_psum {l : MP} {o s : Int} (hs : 0 ≤ s) : psum (lay l o s) = psum l + s := by
  unfold lay
  split
  · omega
  · exact layR_psum l o s
theorem lay_pof {l : MP} {o s x : Int} (hs : 0 ≤ s) : pof x (lay l o s) = pof x l + (if o = x then s else 0) := by
  unfold lay
  split
  · split <;> omega
  · exact layR_pof l o s x
theorem lay_len (l : MP) (o s : Int) : (lay l o s).length ≤ l.length + 1 := by
  unfold lay
  split
  · omega
  · exact layR_len l o s
theorem lay_pok {l : MP} {o s : Int} (h : pok l) (ho : 0 ≤ o ∧ o < 10) : pok (lay l o s) := by
  unfold lay
  split
  · exact h
  · exact layR_pok h ho (by omega)
/-! the class's row of parts -/
def pj (p : Int) (l : List (Int × Int × Int)) : MP := (l.filter (fun q => decide (q.1 = p))).map (fun q => q.2)
theorem pj_app {p : Int} (a b : List (Int × Int × Int)) : pj p (a ++ b) = pj p a ++ pj p b := by unfold pj; rw [List.filter_append, List.map_append]
theorem pj_nil {p : Int} : pj p [] = [] := rfl
theorem pj_cons {p : Int} {q : Int × Int × Int} {r : List (Int × Int × Int)} : pj p (q :: r) = if q.1 = p then q.2 :: pj p r else pj p r := by
  unfold pj
  rw [List.filter_cons]
  by_cases h : q.1 = p
  · rw [if_pos h, if_pos (by simpa using h)]; rfl
  · rw [if_neg h, if_neg (by simpa using h)]
theorem pj_none {p : Int} : ∀ {l : List (Int × Int × Int)}, (∀ q ∈ l, q.1 ≠ p) → pj p l = []
  | [], _ => rfl
  | q :: r, h => by rw [pj_cons, if_neg (h q List.mem_cons_self), pj_none (fun x hx => h x (List.mem_cons_of_mem _ hx))]
def xl (σ : AS) : List (Int × Int × Int) := rl (σ 41 3) (fun i => (σ 42 i, σ 43 i, σ 44 i))
def xp (σ : AS) (p : Int) : MP := pj p (xl σ)
/-- the row is well kept: what stands in it, and where each purse's last part is -/
def XW (σ : AS) : Prop := (0 ≤ σ 41 3 ∧ σ 41 3 ≤ 1010) ∧ (∀ i : Int, 0 ≤ i → i < σ 41 3 → (0 ≤ σ 42 i ∧ σ 42 i < 10) ∧ (0 ≤ σ 43 i ∧ σ 43 i < 10) ∧ 0 < σ 44 i) ∧
  ∀ p : Int, 0 ≤ p → p < 10 → (σ 45 p = -1 ∧ ∀ i : Int, 0 ≤ i → i < σ 41 3 → σ 42 i ≠ p) ∨ ((0 ≤ σ 45 p ∧ σ 45 p < σ 41 3) ∧ σ 42 (σ 45 p) = p ∧ ∀ i : Int, σ 45 p < i → i < σ 41 3 → σ 42 i ≠ p)
theorem xl_mem {σ : AS} (h : XW σ) : ∀ q ∈ xl σ, (0 ≤ q.1 ∧ q.1 < 10) ∧ (0 ≤ q.2.1 ∧ q.2.1 < 10) ∧ 0 < q.2.2 := by
  intro q hq
  obtain ⟨i, h1, h2, h3⟩ := rl_mem.mp hq
  rw [← h3]
  exact h.2.1 i h1 h2
theorem xp_ok {σ : AS} (h : XW σ) (p : Int) : pok (xp σ p) := by
  intro q hq
  unfold xp pj at hq
  obtain ⟨x, hx, rfl⟩ := List.mem_map.mp hq
  have := xl_mem h x (List.mem_filter.mp hx).1
  exact ⟨this.2.1.1, this.2.1.2, this.2.2⟩
theorem xp_mem {σ : AS} {i : Int} (h0 : 0 ≤ i) (h1 : i < σ 41 3) : (σ 43 i, σ 44 i) ∈ xp σ (σ 42 i) := by
  unfold xp pj
  refine List.mem_map.mpr ⟨(σ 42 i, σ 43 i, σ 44 i), List.mem_filter.mpr ⟨rl_mem.mpr ⟨i, h0, h1, rfl⟩, ?_⟩, rfl⟩
  simp
theorem xp_le {σ : AS} (h : XW σ) {i : Int} (h0 : 0 ≤ i) (h1 : i < σ 41 3) : σ 44 i ≤ psum (xp σ (σ 42 i)) := psum_mem (pok_nn (xp_ok h _)) _ (xp_mem h0 h1)
def xput (σ : AS) (p o s : Int) (σ' : AS) : Prop := XW σ' ∧ Fr [42, 43, 44, 45] [(41, 3)] σ σ' ∧ (∀ p' : Int, 0 ≤ p' → p' < 10 → xp σ' p' = if p' = p then lay (xp σ p) o s else xp σ p') ∧
  (σ 41 3 ≤ σ' 41 3 ∧ σ' 41 3 ≤ σ 41 3 + 1) ∧ ∀ i : Int, σ' 41 3 ≤ i → σ' 42 i = σ 42 i ∧ σ' 43 i = σ 43 i ∧ σ' 44 i = σ 44 i
theorem xput_0 {σ : AS} {p o s : Int} (h : XW σ) (hs : s ≤ 0) : xput σ p o s σ := by
  refine ⟨h, Fr.rf, fun p' _ _ => ?_, ⟨by omega, by omega⟩, fun i _ => ⟨rfl, rfl, rfl⟩⟩
  split
  · rename_i e
    rw [e, lay, if_pos hs]
  · rfl
/-- a part joined with the last one of its purse -/
theorem xput_join {σ : AS} {p o s : Int} (h : XW σ) (hs : 0 < s) (hp : 0 ≤ p ∧ p < 10) (h1 : 0 ≤ σ 45 p) (h2 : σ 43 (σ 45 p) = o) : xput σ p o s (am_up σ 44 (σ 45 p) (σ 44 (σ 45 p) + s)) := by
  obtain ⟨hz, he, hl⟩ := h
  rcases hl p hp.1 hp.2 with ⟨q, -⟩ | ⟨⟨a0, a1⟩, a2, a3⟩
  · omega
  have r41 : ∀ i, am_up σ 44 (σ 45 p) (σ 44 (σ 45 p) + s) 41 i = σ 41 i := fun i => by rw [am_up_ne (by decide)]
  have r42 : ∀ i, am_up σ 44 (σ 45 p) (σ 44 (σ 45 p) + s) 42 i = σ 42 i := fun i => by rw [am_up_ne (by decide)]
  have r43 : ∀ i, am_up σ 44 (σ 45 p) (σ 44 (σ 45 p) + s) 43 i = σ 43 i := fun i => by rw [am_up_ne (by decide)]
  have r45 : ∀ i, am_up σ 44 (σ 45 p) (σ 44 (σ 45 p) + s) 45 i = σ 45 i := fun i => by rw [am_up_ne (by decide)]
  refine ⟨⟨by rw [r41]; exact hz, fun i b0 b1 => ?_, fun p' b0 b1 => ?_⟩, Fr.up Fr.rf (Or.inl (by decide)), fun p' b0 b1 => ?_, ⟨by rw [r41]; omega, by rw [r41]; omega⟩, fun i b0 => ?_⟩
  · rw [r41] at b1
    rw [r42, r43, am_up_eq]
    have := he i b0 b1
    have hx := he (σ 45 p) a0 a1
    refine ⟨this.1, this.2.1, ?_⟩
    split <;> omega
  · simp only [r41, r42, r45]
    exact hl p' b0 b1
  · unfold xp xl
    simp only [r41, r42, r43]
    rw [rl_at (fun i => (σ 42 i, σ 43 i, σ 44 i)) a0 a1, rl_at (fun i => (σ 42 i, σ 43 i, am_up σ 44 (σ 45 p) (σ 44 (σ 45 p) + s) 44 i)) a0 a1]
    have e1 : rl (σ 45 p) (fun i => (σ 42 i, σ 43 i, am_up σ 44 (σ 45 p) (σ 44 (σ 45 p) + s) 44 i)) = rl (σ 45 p) (fun i => (σ 42 i, σ 43 i, σ 44 i)) := rl_congr fun i c0 c1 => by rw [am_up_eq, if_neg (by omega)]
    have e2 : rl (σ 41 3 - σ 45 p - 1) (fun i => (σ 42 (σ 45 p + 1 + i), σ 43 (σ 45 p + 1 + i), am_up σ 44 (σ 45 p) (σ 44 (σ 45 p) + s) 44 (σ 45 p + 1 + i))) = rl (σ 41 3 - σ 45 p - 1) (fun i => (σ 42 (σ 45 p + 1 + i), σ 43 (σ 45 p + 1 + i), σ 44 (σ 45 p + 1 + i))) := rl_congr fun i c0 c1 => by rw [am_up_eq, if_neg (by omega)]
    rw [e1, e2, am_up_eq, if_pos rfl]
    have e3 : pj p (rl (σ 41 3 - σ 45 p - 1) (fun i => (σ 42 (σ 45 p + 1 + i), σ 43 (σ 45 p + 1 + i), σ 44 (σ 45 p + 1 + i)))) = [] := by
      refine pj_none fun q hq => ?_
      obtain ⟨i, c0, c1, c2⟩ := rl_mem.mp hq
      rw [← c2]
      exact a3 _ (by omega) (by omega)
    split
    · rename_i e
      subst e
      rw [pj_app, pj_app, pj_cons, pj_cons, if_pos a2, if_pos a2, e3]
      show _ = lay _ _ _
      rw [lay, if_neg (by omega), layR_app, if_pos h2]
    · rename_i e
      rw [pj_app, pj_app, pj_cons, pj_cons, if_neg (fun q => e (by rw [← q]; exact a2)), if_neg (fun q => e (by rw [← q]; exact a2))]
  · rw [r41] at b0
    refine ⟨r42 i, r43 i, ?_⟩
    rw [am_up_eq, if_neg (by omega)]
