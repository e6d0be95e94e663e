/-! what a way takes -/
theorem pof_nil {x : Int} : pof x [] = 0 := rfl
theorem psum_nil : psum [] = 0 := rfl
theorem psum_c {o m : Int} {r : MP} : psum ((o, m) :: r) = m + psum r := rfl
theorem gr_fst {f : Int → Bool} : ∀ {l : MP} {w : Int}, (gr f w l).1.map Prod.fst = l.map Prod.fst
  | [], w => rfl
  | (o, m) :: r, w => by
    rw [gr_c]
    split
    · simp only [List.map_cons]; rw [gr_fst]
    · simp only [List.map_cons]; rw [gr_fst]
/-- what is taken and what is left -/
theorem gr_all {f : Int → Bool} : ∀ {l : MP} {w : Int}, (∀ q ∈ l, 0 ≤ q.2) → 0 ≤ w →
    (∀ q ∈ (gr f w l).1, 0 ≤ q.2) ∧ (∀ q ∈ (gr f w l).2.1, 0 < q.2 ∧ q.1 ∈ l.map Prod.fst ∧ f q.1 = true) ∧ (∀ x, pof x (gr f w l).1 + pof x (gr f w l).2.1 = pof x l) ∧ psum (gr f w l).1 + psum (gr f w l).2.1 = psum l ∧ (gr f w l).2.2 + psum (gr f w l).2.1 = w ∧ 0 ≤ (gr f w l).2.2
  | [], w, h, hw => ⟨(fun q hq => by cases hq), (fun q hq => by cases hq), fun x => by simp [gr, pof], by simp [gr, psum], by simp [gr, psum], hw⟩
  | (o, m) :: r, w, h, hw => by
    have hm : 0 ≤ m := h (o, m) List.mem_cons_self
    have hr : ∀ q ∈ r, 0 ≤ q.2 := fun x hx => h x (List.mem_cons_of_mem _ hx)
    rw [gr_c]
    by_cases hf : f o = true
    · rw [if_pos hf]
      obtain ⟨i1, i2, i3, i4, i5, i6⟩ := gr_all (f := f) (l := r) (w := w - min w m) hr (by omega)
      dsimp only
      refine ⟨fun q hq => ?_, fun q hq => ?_, fun x => ?_, ?_, ?_, i6⟩
      · rcases List.mem_cons.mp hq with e | e
        · rw [e]; show 0 ≤ m - min w m; omega
        · exact i1 q e
      · have key : q ∈ (gr f (w - min w m) r).2.1 → 0 < q.2 ∧ q.1 ∈ ((o, m) :: r).map Prod.fst ∧ f q.1 = true := fun e => ⟨(i2 q e).1, List.mem_cons_of_mem _ (i2 q e).2.1, (i2 q e).2.2⟩
        split at hq
        · rename_i hb
          rcases List.mem_cons.mp hq with e | e
          · rw [e]; exact ⟨hb, List.mem_cons_self, hf⟩
          · exact key e
        · exact key hq
      · have := i3 x
        rw [pof_c, pof_c]
        by_cases e : o = x
        · rw [if_pos e, if_pos e]
          split
          · rw [pof_c, if_pos e]; omega
          · omega
        · rw [if_neg e, if_neg e]
          split
          · rw [pof_c, if_neg e]; omega
          · omega
      · rw [psum_c, psum_c]
        split
        · rw [psum_c]; omega
        · omega
      · split
        · rw [psum_c]; omega
        · omega
    · rw [if_neg hf]
      obtain ⟨i1, i2, i3, i4, i5, i6⟩ := gr_all (f := f) (l := r) (w := w) hr hw
      dsimp only
      refine ⟨fun q hq => ?_, fun q hq => ⟨(i2 q hq).1, List.mem_cons_of_mem _ (i2 q hq).2.1, (i2 q hq).2.2⟩, fun x => ?_, ?_, i5, i6⟩
      · rcases List.mem_cons.mp hq with e | e
        · rw [e]; exact hm
        · exact i1 q e
      · have := i3 x
        rw [pof_c, pof_c]
        omega
      · rw [psum_c, psum_c]; omega
/-- parts that are not empty -/
def nz (l : MP) : Nat := (l.filter (fun q => decide (0 < q.2))).length
theorem nz_nil : nz [] = 0 := rfl
theorem nz_c {o m : Int} {r : MP} : nz ((o, m) :: r) = nz r + (if 0 < m then 1 else 0) := by
  unfold nz
  rw [List.filter_cons]
  by_cases h : 0 < m
  · rw [if_pos (by simpa using h), if_pos h]; rfl
  · rw [if_neg (by simpa using h), if_neg h]; rfl
theorem nz_app {a b : MP} : nz (a ++ b) = nz a + nz b := by unfold nz; rw [List.filter_append, List.length_append]
theorem nz_rev {a : MP} : nz a.reverse = nz a := by unfold nz; rw [List.filter_reverse, List.length_reverse]
theorem nz_pok : ∀ {l : MP}, pok l → nz l = l.length
  | [], _ => rfl
  | (o, m) :: r, h => by
    rw [nz_c, if_pos (h (o, m) List.mem_cons_self).2.2, nz_pok (fun x hx => h x (List.mem_cons_of_mem _ hx)), List.length_cons]
/-- a pass takes from no more parts than it empties, and one -/
theorem gr_cnt {f : Int → Bool} : ∀ {l : MP} {w : Int}, (∀ q ∈ l, 0 ≤ q.2) → 0 ≤ w → (gr f w l).2.1.length + nz (gr f w l).1 ≤ nz l + 1
  | [], w, h, hw => by simp [gr, nz]
  | (o, m) :: r, w, h, hw => by
    have hm : 0 ≤ m := h (o, m) List.mem_cons_self
    have hr : ∀ q ∈ r, 0 ≤ q.2 := fun x hx => h x (List.mem_cons_of_mem _ hx)
    rw [gr_c]
    by_cases hf : f o = true
    · rw [if_pos hf]
      dsimp only
      by_cases hle : m ≤ w
      · have ih := gr_cnt (f := f) (l := r) (w := w - m) hr (by omega)
        rw [show min w m = m by omega, nz_c, nz_c, if_neg (by omega : ¬ 0 < m - m)]
        split
        · rw [List.length_cons]; omega
        · omega
      · rw [show min w m = w by omega, show w - w = 0 by omega, gr_z hr, nz_c, nz_c, if_pos (by omega : 0 < m - w), if_pos (by omega : 0 < m)]
        dsimp only
        split <;> simp
        omega
    · have ih := gr_cnt (f := f) (l := r) (w := w) hr hw
      rw [if_neg hf]
      dsimp only
      rw [nz_c, nz_c]
      omega
theorem gr_len {f : Int → Bool} : ∀ {l : MP} {w : Int}, (gr f w l).2.1.length ≤ l.length
  | [], w => by simp [gr]
  | (o, m) :: r, w => by
    rw [gr_c]
    split
    · have := gr_len (f := f) (l := r) (w := w - min w m)
      dsimp only
      split
      · rw [List.length_cons, List.length_cons]; omega
      · rw [List.length_cons]; omega
    · have := gr_len (f := f) (l := r) (w := w)
      dsimp only
      rw [List.length_cons]; omega
/-- two passes, the second for what the first has left over -/
def gr2 (f g : Int → Bool) (w : Int) (l : MP) : MP × MP := ((gr g (gr f w l).2.2 (gr f w l).1).1, (gr f w l).2.1 ++ (gr g (gr f w l).2.2 (gr f w l).1).2.1)
/-- ten passes, one for each person -/
def gq (q : Int → Int) (l : MP) : Nat → MP × MP
  | 0 => (l, [])
  | k + 1 => ((gr (fun x => decide (x = (k : Int))) (q k) (gq q l k).1).1, (gq q l k).2 ++ (gr (fun x => decide (x = (k : Int))) (q k) (gq q l k).1).2.1)
def fN (o : Int) : Int → Bool := fun x => !decide (x = o)
def fI (o : Int) : Int → Bool := fun x => decide (x = o)
def takeW (way s h : Int) (l : MP) : MP × MP :=
  if way = 1 then ((gr fA s l.reverse).1.reverse, (gr fA s l.reverse).2.1)
  else if way = 2 then gq (pq s (fun o => pof o l) 10) l 10
  else if way = 3 then gr2 (fI h) (fN h) s l
  else if way = 4 then gr2 (fN h) (fI h) s l
  else ((gr (fN (-1)) s l).1, (gr (fN (-1)) s l).2.1)
/-- what is good for taking: what is left, what is taken -/
def tkOK (s : Int) (n : Nat) (l : MP) (r : MP × MP) : Prop := (∀ q ∈ r.1, 0 ≤ q.2) ∧ (∀ q ∈ r.2, 0 < q.2 ∧ q.1 ∈ l.map Prod.fst) ∧ (∀ x, pof x r.1 + pof x r.2 = pof x l) ∧ psum r.1 + psum r.2 = psum l ∧ psum r.2 ≤ s ∧ r.1.map Prod.fst = l.map Prod.fst ∧ r.2.length + nz r.1 ≤ nz l + n
theorem tk_gr {f : Int → Bool} {w : Int} {l : MP} (hl : ∀ q ∈ l, 0 ≤ q.2) (hw : 0 ≤ w) : tkOK w 1 l ((gr f w l).1, (gr f w l).2.1) := by
  obtain ⟨h1, h2, h3, h4, h5, h6⟩ := gr_all (f := f) hl hw
  exact ⟨h1, fun q hq => ⟨(h2 q hq).1, (h2 q hq).2.1⟩, h3, h4, by dsimp only; omega, gr_fst, gr_cnt hl hw⟩
theorem tk_tr {s s2 s3 : Int} {n n2 : Nat} {l a b c d : MP} (h : tkOK s n l (a, b)) (h2 : tkOK s2 n2 a (c, d)) (hs : psum b + psum d ≤ s3) : tkOK s3 (n + n2) l (c, b ++ d) := by
  obtain ⟨h1, h2', h3, h4, h5, h6, h7⟩ := h
  obtain ⟨k1, k2, k3, k4, k5, k6, k7⟩ := h2
  dsimp only at *
  refine ⟨k1, fun q hq => ?_, fun x => ?_, ?_, ?_, k6.trans h6, ?_⟩
  · rcases List.mem_append.mp hq with e | e
    · exact h2' q e
    · refine ⟨(k2 q e).1, ?_⟩
      rw [← h6]
      exact (k2 q e).2
  · show pof x c + pof x (b ++ d) = pof x l
    rw [pof_app]
    have := h3 x
    have := k3 x
    omega
  · show psum c + psum (b ++ d) = psum l
    rw [psum_app]; omega
  · show psum (b ++ d) ≤ s3
    rw [psum_app]; exact hs
  · show (b ++ d).length + nz c ≤ _
    rw [List.length_append]; omega
theorem tk_gr2 {f g : Int → Bool} {w : Int} {l : MP} (hl : ∀ q ∈ l, 0 ≤ q.2) (hw : 0 ≤ w) : tkOK w 2 l (gr2 f g w l) := by
  obtain ⟨h1, h2, h3, h4, h5, h6⟩ := gr_all (f := f) hl hw
  obtain ⟨k1, k2, k3, k4, k5, k6⟩ := gr_all (f := g) h1 h6
  exact tk_tr (tk_gr hl hw) (tk_gr h1 h6) (by omega)
theorem tk_gq {q : Int → Int} {l : MP} (hl : ∀ x ∈ l, 0 ≤ x.2) : ∀ {k : Nat}, (∀ o : Int, 0 ≤ o → o < k → 0 ≤ q o) → tkOK (sm q k) k l (gq q l k)
  | 0, _ => ⟨hl, (fun x hx => by cases hx), fun x => by simp [gq, pof], by simp [gq, psum], by simp [gq, psum, sm], rfl, by simp [gq]⟩
  | k + 1, h => by
    have ih := tk_gq (q := q) hl (k := k) (fun o a b => h o a (by omega))
    have hq := h k (by omega) (by omega)
    have i2 := tk_gr (f := fun x => decide (x = (k : Int))) ih.1 hq
    have e1 := ih.2.2.2.2.1
    have e2 := i2.2.2.2.2.1
    dsimp only at e2
    exact tk_tr ih i2 (by rw [sm]; omega)
/-- portions come to no more than the sum -/
theorem pq_tot {s : Int} {w : Int → Int} {n : Nat} (h0 : 0 ≤ s) (hp : 0 < sm w n) (hw : ∀ i : Int, 0 ≤ i → i < n → 0 ≤ w i) : sm (pq s w n) n ≤ s ∧ ∀ i : Int, 0 ≤ i → i < n → 0 ≤ pq s w n i := by
  have h1 := pq_sum h0 hp hw (k := n) (Nat.le_refl n)
  obtain ⟨r, hr⟩ : ∃ r, r = s - sm (fun j => s * w j / sm w n) n := ⟨_, rfl⟩
  have key : ∀ k : Nat, k ≤ n → sm (pq s w n) k ≤ sm (fun j => s * w j / sm w n) k + min r (cp w k) := by
    intro k
    induction k with
    | zero => intro _; rw [sm, sm, cp]; omega
    | succ k ih =>
      intro hk
      have := ih (by omega)
      rw [sm, sm, cp, pq, ← hr, show ((k : Int).toNat) = k by omega]
      split
      · rename_i q
        rw [if_pos q.1]
        omega
      · rename_i q
        split
        · omega
        · omega
  refine ⟨by have := key n (Nat.le_refl n); omega, fun i a b => ?_⟩
  have := (pq_each h0 hp hw a b).1
  unfold pq
  split <;> omega
theorem pof_sm {l : MP} : ∀ {n : Nat}, (∀ q ∈ l, 0 ≤ q.1 ∧ q.1 < n) → sm (fun o => pof o l) n = psum l := by
  intro n
  induction l with
  | nil => intro _; exact sm_zero (fun _ _ _ => rfl)
  | cons q r ih =>
    intro h
    have hq := h q List.mem_cons_self
    have h2 : sm (fun o => (if q.1 = o then q.2 else 0) + pof o r) n = sm (fun o => if q.1 = o then q.2 else 0) n + sm (fun o => pof o r) n := sm_add
    have h3 : ∀ k : Nat, sm (fun o => if q.1 = o then q.2 else 0) k = if q.1 < k then q.2 else 0 := by
      intro k
      induction k with
      | zero => rw [sm, if_neg (by omega)]
      | succ k ihk =>
        rw [sm, ihk]
        by_cases e : q.1 = (k : Int)
        · rw [if_pos e, if_neg (by omega), if_pos (by omega)]; omega
        · rw [if_neg e]
          by_cases e2 : q.1 < (k : Int)
          · rw [if_pos e2, if_pos (by omega)]; omega
          · rw [if_neg e2, if_neg (by omega)]; rfl
    show sm (fun o => (if q.1 = o then q.2 else 0) + pof o r) n = q.2 + psum r
    rw [h2, h3, if_pos hq.2, ih (fun x hx => h x (List.mem_cons_of_mem _ hx))]
theorem tk_takeW {way s h : Int} {l : MP} (hl : pok l) (hs : 0 < s) (hss : s ≤ psum l) : tkOK s 10 l (takeW way s h l) := by
  have hnn := pok_nn hl
  have mono : ∀ {n : Nat} {r : MP × MP}, n ≤ 10 → tkOK s n l r → tkOK s 10 l r := fun hn ⟨a, b, c, d, e, f, g⟩ => ⟨a, b, c, d, e, f, by omega⟩
  unfold takeW
  split
  · have hr : ∀ q ∈ l.reverse, 0 ≤ q.2 := fun q hq => hnn q (List.mem_reverse.mp hq)
    obtain ⟨a, b, c, d, e, f, g⟩ := tk_gr (f := fA) hr (by omega : 0 ≤ s)
    have prev : ∀ {x : Int} (l : MP), pof x l.reverse = pof x l := by
      intro x l
      induction l with
      | nil => rfl
      | cons q r ih => rw [List.reverse_cons, pof_app, ih, pof, pof, pof]; omega
    have srev : ∀ (l : MP), psum l.reverse = psum l := by
      intro l
      induction l with
      | nil => rfl
      | cons q r ih => rw [List.reverse_cons, psum_app, ih, psum, psum, psum]; omega
    dsimp only at *
    refine mono (n := 1) (by omega) ⟨fun q hq => a q (List.mem_reverse.mp hq), fun q hq => ⟨(b q hq).1, ?_⟩, fun x => ?_, ?_, e, ?_, ?_⟩
    · have := (b q hq).2
      rw [List.map_reverse, List.mem_reverse] at this
      exact this
    · dsimp only; rw [prev]; have := c x; rw [prev] at this; exact this
    · dsimp only; rw [srev]; rw [srev] at d; exact d
    · dsimp only; rw [List.map_reverse, f, List.map_reverse, List.reverse_reverse]
    · dsimp only; rw [nz_rev]; rw [nz_rev] at g; exact g
  · split
    · have hw : sm (fun o => pof o l) 10 = psum l := pof_sm (fun q hq => ⟨(hl q hq).1, (hl q hq).2.1⟩)
      obtain ⟨p1, p2⟩ := pq_tot (s := s) (w := fun o => pof o l) (n := 10) (by omega) (by omega) (fun i a b => (pof_nn hnn).1)
      obtain ⟨a, b, c, d, e, f, g⟩ := tk_gq (q := pq s (fun o => pof o l) 10) hnn (k := 10) (fun o a b => p2 o a (by omega))
      exact ⟨a, b, c, d, by omega, f, g⟩
    · split
      · exact mono (by omega) (tk_gr2 hnn (by omega))
      · split
        · exact mono (by omega) (tk_gr2 hnn (by omega))
        · exact mono (by omega) (tk_gr hnn (by omega))
