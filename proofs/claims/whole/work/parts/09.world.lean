/-! how a state of the abstract machine lies in the machine's -/
def am_ad (b base : Nat) (a : Nat) : Nat := match a with
  | 0 => b
  | k + 1 => base + k
def am_c (ad : Nat → Nat) (v : AV) : Value := match v with
  | .inl x => .int (Int32.ofInt x)
  | .inr (.inl x) => .long (Int64.ofInt x)
  | .inr (.inr (.inl a)) => .ref (ad a)
  | .inr (.inr (.inr _)) => .null
def am_in (v : AV) : Prop := match v with
  | .inl x => in32 x
  | .inr (.inl x) => in64 x
  | _ => True
def am_lv (ad : Nat → Nat) : Nat → List AV → List (Nat × Value)
  | _, [] => []
  | i, .inr (.inr (.inr _)) :: r => am_lv ad (i + 1) r
  | i, v :: r => (i, am_c ad v) :: am_lv ad (i + 1) r
theorem am_lv_mem {ad : Nat → Nat} {q : Nat × Value} : ∀ {l : List AV} {i : Nat}, q ∈ am_lv ad i l → ∃ j v, l[j]? = some v ∧ v ≠ vU ∧ q = (i + j, am_c ad v)
  | [], i, h => by simp [am_lv] at h
  | .inr (.inr (.inr u)) :: r, i, h => by
    obtain ⟨j, v, h1, h2, h3⟩ := am_lv_mem (l := r) (i := i + 1) h
    exact ⟨j + 1, v, by simpa using h1, h2, by rw [h3, show i + 1 + j = i + (j + 1) by omega]⟩
  | .inl x :: r, i, h => by
    rcases List.mem_cons.mp h with h | h
    · exact ⟨0, vI x, rfl, (fun q => by cases q), h⟩
    · obtain ⟨j, v, h1, h2, h3⟩ := am_lv_mem (l := r) (i := i + 1) h
      exact ⟨j + 1, v, by simpa using h1, h2, by rw [h3, show i + 1 + j = i + (j + 1) by omega]⟩
  | .inr (.inl x) :: r, i, h => by
    rcases List.mem_cons.mp h with h | h
    · exact ⟨0, vL x, rfl, (fun q => by cases q), h⟩
    · obtain ⟨j, v, h1, h2, h3⟩ := am_lv_mem (l := r) (i := i + 1) h
      exact ⟨j + 1, v, by simpa using h1, h2, by rw [h3, show i + 1 + j = i + (j + 1) by omega]⟩
  | .inr (.inr (.inl x)) :: r, i, h => by
    rcases List.mem_cons.mp h with h | h
    · exact ⟨0, vR x, rfl, (fun q => by cases q), h⟩
    · obtain ⟨j, v, h1, h2, h3⟩ := am_lv_mem (l := r) (i := i + 1) h
      exact ⟨j + 1, v, by simpa using h1, h2, by rw [h3, show i + 1 + j = i + (j + 1) by omega]⟩
theorem am_lv_of {ad : Nat → Nat} {v : AV} (hv : v ≠ vU) : ∀ {l : List AV} {i j : Nat}, l[j]? = some v → (i + j, am_c ad v) ∈ am_lv ad i l
  | [], i, j, h => by simp at h
  | a :: r, i, 0, h => by
    have : a = v := by simpa using h
    subst this
    rcases a with x | x | x | x
    · exact List.mem_cons_self
    · exact List.mem_cons_self
    · exact List.mem_cons_self
    · exact absurd rfl hv
  | a :: r, i, j + 1, h => by
    have h2 := am_lv_of (ad := ad) hv (l := r) (i := i + 1) (j := j) (by simpa using h)
    rw [show i + 1 + j = i + (j + 1) by omega] at h2
    rcases a with x | x | x | x
    · exact List.mem_cons_of_mem _ h2
    · exact List.mem_cons_of_mem _ h2
    · exact List.mem_cons_of_mem _ h2
    · exact h2
/-- locals: what the abstract machine knows of them -/
def am_loc (ad : Nat → Nat) (ls : Array Slot) (n : Nat) (al : List AV) : Prop := al.length = n ∧ lv_has ls n (am_lv ad 0 al)
theorem am_loc_at {ad : Nat → Nat} {ls : Array Slot} {n : Nat} {al : List AV} (h : am_loc ad ls n al) {i : Nat} {v : AV} (hv : v ≠ vU) (hi : al.getD i vU = v) : ls[i]? = some (.val (am_c ad v)) := by
  have h1 : al[i]? = some v := by
    rw [List.getD_eq_getElem?_getD] at hi
    cases hq : al[i]? with
    | none => rw [hq] at hi; exact absurd hi.symm hv
    | some w => rw [hq] at hi; rw [← hi]; rfl
  have h2 := h.2.2.2 _ (am_lv_of (ad := ad) hv (i := 0) h1)
  simpa using h2
theorem am_loc_le {ad : Nat → Nat} {ls : Array Slot} {n : Nat} {al : List AV} {lv : List (Nat × Value)} (hn : al.length = n) (h : lv_has ls n lv) (hm : ∀ j v, al[j]? = some v → v ≠ vU → (j, am_c ad v) ∈ lv) : am_loc ad ls n al := by
  refine ⟨hn, h.1, h.2.1, fun q hq => ?_⟩
  obtain ⟨j, v, h1, h2, rfl⟩ := am_lv_mem hq
  rw [Nat.zero_add]
  exact h.2.2 _ (hm j v h1 h2)
theorem am_set_len (al : List AV) (i : Nat) (v : AV) : (am_set al i v).length = al.length := by
  unfold am_set
  split
  · simp
  · split <;> simp
theorem am_isL_c {ad : Nat → Nat} {v : AV} : am_isL v = true ↔ (am_c ad v).category = 2 := by
  rcases v with x | x | x | x <;> simp [am_isL, am_c, Value.category]
theorem am_set_get {al : List AV} {i j : Nat} {v w : AV} (h : (am_set al i v)[j]? = some w) (hw : w ≠ vU) : (j = i ∧ w = v) ∨ (j ≠ i ∧ al[j]? = some w ∧ ¬ (j + 1 = i ∧ am_isL w = true)) := by
  unfold am_set at h
  split at h
  · rw [List.getElem?_set] at h
    split at h
    · split at h
      · left; rename_i e _; exact ⟨e.symm, (Option.some.inj h).symm⟩
      · cases h
    · right; rename_i e; exact ⟨fun q => e q.symm, h, by omega⟩
  · rename_i k
    split at h
    · rw [List.getElem?_set] at h
      split at h
      · split at h
        · left; rename_i e _; exact ⟨e.symm, (Option.some.inj h).symm⟩
        · cases h
      · rw [List.getElem?_set] at h
        split at h
        · split at h
          · exact absurd (Option.some.inj h).symm hw
          · cases h
        · right
          rename_i e1 e2
          exact ⟨fun q => e1 q.symm, h, by omega⟩
    · rename_i hl
      rw [List.getElem?_set] at h
      split at h
      · split at h
        · left; rename_i e _; exact ⟨e.symm, (Option.some.inj h).symm⟩
        · cases h
      · right
        rename_i e1
        refine ⟨fun q => e1 q.symm, h, fun q => ?_⟩
        have hk : j = k := by omega
        subst hk
        rw [List.getD_eq_getElem?_getD, h] at hl
        have h3 := q.2
        simp only [Option.getD_some] at hl
        rw [hl] at h3
        cases h3
theorem am_loc_set {ad : Nat → Nat} {ls' : Array Slot} {n : Nat} {al : List AV} {i : Nat} {v : AV} (hn : al.length = n)
    (h : lv_has ls' n ((i, am_c ad v) :: (am_lv ad 0 al).filter (fun q => !(q.1 == i) && !(q.1 + 1 == i && q.2.category == 2)))) : am_loc ad ls' n (am_set al i v) := by
  refine am_loc_le (by rw [am_set_len]; exact hn) h fun j w hj hw => ?_
  rcases am_set_get hj hw with ⟨rfl, rfl⟩ | ⟨h1, h2, h3⟩
  · exact List.mem_cons_self
  · refine List.mem_cons_of_mem _ (List.mem_filter.mpr ⟨by have := am_lv_of (ad := ad) hw (i := 0) h2; rwa [Nat.zero_add] at this, ?_⟩)
    have h4 : ¬ (j + 1 = i ∧ (am_c ad w).category = 2) := fun q => h3 ⟨q.1, am_isL_c.mpr q.2⟩
    simp only [Bool.and_eq_true, Bool.not_eq_true', Bool.and_eq_false_iff, beq_eq_false_iff_ne, ne_eq]
    refine ⟨h1, ?_⟩
    by_cases q : j + 1 = i
    · exact Or.inr fun e => h4 ⟨q, e⟩
    · exact Or.inl q
theorem am_loc_setL {ad : Nat → Nat} {ls' : Array Slot} {n : Nat} {al : List AV} {i : Nat} {v : AV} (hn : al.length = n)
    (h : lv_has ls' n ((i, am_c ad v) :: (am_lv ad 0 al).filter (fun q => !(q.1 == i) && (!(q.1 == i + 1) && !(q.1 + 1 == i && q.2.category == 2))))) : am_loc ad ls' n ((am_set al i v).set (i + 1) vU) := by
  refine am_loc_le (by simp [am_set_len, hn]) h fun j w hj hw => ?_
  rw [List.getElem?_set] at hj
  split at hj
  · split at hj
    · exact absurd (Option.some.inj hj).symm hw
    · cases hj
  rename_i e0
  rcases am_set_get hj hw with ⟨rfl, rfl⟩ | ⟨h1, h2, h3⟩
  · exact List.mem_cons_self
  · refine List.mem_cons_of_mem _ (List.mem_filter.mpr ⟨by have := am_lv_of (ad := ad) hw (i := 0) h2; rwa [Nat.zero_add] at this, ?_⟩)
    have h4 : ¬ (j + 1 = i ∧ (am_c ad w).category = 2) := fun q => h3 ⟨q.1, am_isL_c.mpr q.2⟩
    simp only [Bool.and_eq_true, Bool.not_eq_true', Bool.and_eq_false_iff, beq_eq_false_iff_ne, ne_eq]
    refine ⟨h1, fun q => e0 q.symm, ?_⟩
    by_cases q : j + 1 = i
    · exact Or.inr fun e => h4 ⟨q, e⟩
    · exact Or.inl q
theorem am_in_set {al : List AV} {i : Nat} {v : AV} (h : ∀ w ∈ al, am_in w) (hv : am_in v) : ∀ w ∈ am_set al i v, am_in w := by
  intro w hw
  obtain ⟨j, hj⟩ := List.getElem?_of_mem hw
  by_cases hu : w = vU
  · rw [hu]; trivial
  · rcases am_set_get hj hu with ⟨-, rfl⟩ | ⟨-, h2, -⟩
    · exact hv
    · exact h w (List.mem_of_getElem? h2)
theorem am_in_setU {al : List AV} {i : Nat} (h : ∀ w ∈ al, am_in w) : ∀ w ∈ al.set i vU, am_in w := by
  intro w hw
  rcases List.mem_or_eq_of_mem_set hw with q | q
  · exact h w q
  · rw [q]; trivial
theorem am_in_get {al : List AV} {i : Nat} (h : ∀ w ∈ al, am_in w) : am_in (al.getD i vU) := by
  rw [List.getD_eq_getElem?_getD]
  cases hq : al[i]? with
  | none => trivial
  | some w => exact h w (List.mem_of_getElem? hq)
/-! cells -/
noncomputable def am_fe (ad : Nat → Nat) (σ : AS) (a k t : Nat) : Value := match t with
  | 2 => Value.ref (ad (am_ref a k))
  | _ => .int (Int32.ofInt (σ a (k : Int)))
noncomputable def am_fv (ad : Nat → Nat) (σ : AS) (a : Nat) : Nat → List Nat → List Value
  | _, [] => []
  | k, t :: r => am_fe ad σ a k t :: am_fv ad σ a (k + 1) r
theorem am_fv_get {ad : Nat → Nat} {σ : AS} {a : Nat} : ∀ (l : List Nat) (k j : Nat), (am_fv ad σ a k l)[j]? = (l[j]?).map (fun t => am_fe ad σ a (k + j) t)
  | [], k, j => by simp [am_fv]
  | t :: r, k, 0 => by simp [am_fv]
  | t :: r, k, j + 1 => by
    rw [am_fv, List.getElem?_cons_succ, am_fv_get r (k + 1) j, List.getElem?_cons_succ, show k + 1 + j = k + (j + 1) by omega]
theorem am_fv_len {ad : Nat → Nat} {σ : AS} {a : Nat} : ∀ (l : List Nat) (k : Nat), (am_fv ad σ a k l).length = l.length
  | [], k => rfl
  | t :: r, k => by rw [am_fv, List.length_cons, am_fv_len r (k + 1), List.length_cons]
noncomputable def am_cell (Ln : Int) (ad : Nat → Nat) (cA : Nat → ClassId) (σ : AS) (a : Nat) : va_E := match am_kd Ln a with
  | (0, _, ci) => .inr (ci, am_fv ad σ a 0 (am_ftL.getD ci []))
  | (2, n, _) => .inl (cA 2, n.toNat, .inr (.inl (fun j => Int64.ofInt (σ a j))))
  | (t, n, _) => .inl (cA t, n.toNat, .inl (fun j => Int32.ofInt (σ a j)))
noncomputable def am_ws (Ln : Int) (b base : Nat) (cA : Nat → ClassId) (σ : AS) : va_W := (List.range am_NC).map (fun k => (base + k, am_cell Ln (am_ad b base) cA σ (k + 1)))
theorem am_ws_get {Ln : Int} {b base : Nat} {cA : Nat → ClassId} {σ : AS} {k : Nat} (h : k < am_NC) : (am_ws Ln b base cA σ)[k]? = some (base + k, am_cell Ln (am_ad b base) cA σ (k + 1)) := by
  unfold am_ws
  rw [List.getElem?_map, List.getElem?_range h]
  rfl
theorem am_ws_D {Ln : Int} {b base : Nat} {cA : Nat → ClassId} {σ : AS} : va_D (fun q => base ≤ q) (am_ws Ln b base cA σ) := by
  have key : ∀ (k : Nat) (q : Nat × va_E), (am_ws Ln b base cA σ)[k]? = some q → q.1 = base + k := by
    intro k q h
    by_cases hk : k < am_NC
    · rw [am_ws_get hk] at h
      rw [← Option.some.inj h]
    · have : (am_ws Ln b base cA σ).length ≤ k := by unfold am_ws; simp; omega
      rw [List.getElem?_eq_none this] at h
      cases h
  refine ⟨fun i j p q hi hj e => ?_, fun k q h => ?_⟩
  · have h1 := key i p hi
    have h2 := key j q hj
    omega
  · have h1 := key k q h
    show base ≤ q.1
    omega
theorem am_cell_congr {Ln : Int} {ad : Nat → Nat} {cA : Nat → ClassId} {σ σ' : AS} {a : Nat} (h : σ' a = σ a) : am_cell Ln ad cA σ' a = am_cell Ln ad cA σ a := by
  have h2 : ∀ (l : List Nat) (k : Nat), am_fv ad σ' a k l = am_fv ad σ a k l := by
    intro l
    induction l with
    | nil => intro k; rfl
    | cons t r ih =>
      intro k
      rw [am_fv, am_fv, ih]
      unfold am_fe
      rw [h]
  unfold am_cell
  split <;> simp only [h, h2]
theorem am_ws_set {Ln : Int} {b base : Nat} {cA : Nat → ClassId} {σ σ' : AS} {k : Nat} (h : ∀ a, a ≠ k + 1 → σ' a = σ a) : am_ws Ln b base cA σ' = (am_ws Ln b base cA σ).set k (base + k, am_cell Ln (am_ad b base) cA σ' (k + 1)) := by
  apply List.ext_getElem?
  intro j
  by_cases hj : j < am_NC
  · by_cases e : k = j
    · subst e
      rw [am_ws_get hj, List.getElem?_set_self (by unfold am_ws; simpa using hj)]
    · rw [am_ws_get hj, List.getElem?_set_ne e, am_ws_get hj, am_cell_congr (h (j + 1) (by omega))]
  · have h1 : (am_ws Ln b base cA σ').length ≤ j := by unfold am_ws; simp; omega
    have h2 : ((am_ws Ln b base cA σ).set k (base + k, am_cell Ln (am_ad b base) cA σ' (k + 1))).length ≤ j := by unfold am_ws; simp; omega
    rw [List.getElem?_eq_none h1, List.getElem?_eq_none h2]
theorem am_up_ne {σ : AS} {c c' : Nat} {i v : Int} (h : c' ≠ c) : am_up σ c i v c' = σ c' := by
  funext j
  unfold am_up
  cases h9 : Nat.beq c' c with
  | true => exact absurd (Nat.eq_of_beq_eq_true h9) h
  | false => rfl
theorem am_up_eq {σ : AS} {c : Nat} {i v j : Int} : am_up σ c i v c j = if j = i then v else σ c j := by
  unfold am_up
  rw [show Nat.beq c c = true from Nat.beq_refl c]
theorem am_cpy_ne {σ : AS} {a0 a1 c : Nat} {sp dp n : Int} (h : c ≠ a1) : am_cpy σ a0 a1 sp dp n c = σ c := by
  funext j
  unfold am_cpy
  cases h9 : Nat.beq c a1 with
  | true => exact absurd (Nat.eq_of_beq_eq_true h9) h
  | false => rfl
theorem am_cpy_eq {σ : AS} {a0 a1 : Nat} {sp dp n i : Int} : am_cpy σ a0 a1 sp dp n a1 i = if dp ≤ i ∧ i < dp + n then σ a0 (sp + (i - dp)) else σ a1 i := by
  unfold am_cpy
  rw [show Nat.beq a1 a1 = true from Nat.beq_refl a1]
/-- a cell that has a kind is one of the cells -/
theorem am_kd_lt {Ln : Int} {k : Nat} (h : (am_kd Ln (k + 1)).1 ≠ 9) : k < am_NC := by
  rcases Nat.lt_or_ge k am_NC with q | q
  · exact q
  · exfalso
    apply h
    unfold am_NC at q
    show ((am_kdL.getD (k / 16) []).getD (k % 16) (9, 0, 0)).1 = 9
    rcases Nat.lt_or_ge k 144 with q2 | q2
    · have h1 : k / 16 = 8 := by omega
      rw [h1]
      have h2 : k % 16 = 10 ∨ k % 16 = 11 ∨ k % 16 = 12 ∨ k % 16 = 13 ∨ k % 16 = 14 ∨ k % 16 = 15 := by omega
      rcases h2 with e | e | e | e | e | e <;> rw [e] <;> rfl
    · have h1 : am_kdL.length ≤ k / 16 := by
        show 9 ≤ k / 16
        omega
      have h2 : am_kdL.getD (k / 16) [] = [] := by rw [List.getD_eq_getElem?_getD, List.getElem?_eq_none h1]; rfl
      rw [h2]
      simp
theorem am_kd_len {Ln : Int} {a : Nat} (h0 : 0 ≤ Ln) (h1 : Ln ≤ 4096) : 0 ≤ (am_kd Ln a).2.1 ∧ (am_kd Ln a).2.1 ≤ 14000 := by
  cases a with
  | zero => exact ⟨h0, by show Ln ≤ 14000; omega⟩
  | succ k =>
    have key : ∀ q ∈ am_kdL, ∀ r ∈ q, 0 ≤ r.2.1 ∧ r.2.1 ≤ (14000 : Int) := by
      have : am_kdL.all (fun q => q.all fun r => decide (0 ≤ r.2.1 ∧ r.2.1 ≤ (14000 : Int))) = true := by decide +kernel
      intro q hq r hr
      have h2 := List.all_eq_true.mp this q hq
      simpa using List.all_eq_true.mp h2 r hr
    show 0 ≤ ((am_kdL.getD (k / 16) []).getD (k % 16) (9, 0, 0)).2.1 ∧ ((am_kdL.getD (k / 16) []).getD (k % 16) (9, 0, 0)).2.1 ≤ 14000
    rw [List.getD_eq_getElem?_getD, List.getD_eq_getElem?_getD]
    cases hq : am_kdL[k / 16]? with
    | none => simp
    | some q =>
      simp only [Option.getD_some]
      cases hr : q[k % 16]? with
      | none => simp
      | some r => exact key q (List.mem_of_getElem? hq) r (List.mem_of_getElem? hr)
