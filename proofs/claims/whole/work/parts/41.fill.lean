/-! frames, sums, and the methods that only fill or reckon -/
def Fr (cs : List Nat) (fs : List (Nat × Int)) (σ σ' : AS) : Prop := ∀ c i, c ∉ cs → (c, i) ∉ fs → σ' c i = σ c i
theorem Fr.rf {cs : List Nat} {fs : List (Nat × Int)} {σ : AS} : Fr cs fs σ σ := fun _ _ _ _ => rfl
theorem Fr.tr {cs : List Nat} {fs : List (Nat × Int)} {σ σ1 σ2 : AS} (h : Fr cs fs σ σ1) (h2 : Fr cs fs σ1 σ2) : Fr cs fs σ σ2 := fun c i a b => (h2 c i a b).trans (h c i a b)
theorem Fr.mo {cs cs' : List Nat} {fs fs' : List (Nat × Int)} {σ σ' : AS} (h : Fr cs fs σ σ') (h1 : ∀ c ∈ cs, c ∈ cs') (h2 : ∀ q ∈ fs, q.1 ∈ cs' ∨ q ∈ fs') : Fr cs' fs' σ σ' := fun c i a b => h c i (fun q => a (h1 c q)) (fun q => (h2 (c, i) q).elim a b)
theorem Fr.cell {cs : List Nat} {fs : List (Nat × Int)} {σ σ' : AS} (h : Fr cs fs σ σ') (c : Nat) (h1 : c ∉ cs ∧ c ∉ fs.map Prod.fst) : σ' c = σ c := funext fun i => h c i h1.1 (fun q => h1.2 (List.mem_map.mpr ⟨_, q, rfl⟩))
theorem Fr.fld {cs : List Nat} {fs : List (Nat × Int)} {σ σ' : AS} (h : Fr cs fs σ σ') (c : Nat) (i : Int) (h1 : c ∉ cs ∧ (c, i) ∉ fs) : σ' c i = σ c i := h c i h1.1 h1.2
theorem Fr.cl {cs : List Nat} {fs : List (Nat × Int)} {σ σ' : AS} {c : Nat} {f : Int → Int} (h : Fr cs fs σ σ') (hc : c ∈ cs) : Fr cs fs σ (zc σ' c f) := fun c' i a b => by rw [zc_ne (fun q => a (by rw [q]; exact hc))]; exact h c' i a b
theorem Fr.up {cs : List Nat} {fs : List (Nat × Int)} {σ σ' : AS} {c : Nat} {j v : Int} (h : Fr cs fs σ σ') (hc : c ∈ cs ∨ (c, j) ∈ fs) : Fr cs fs σ (am_up σ' c j v) := fun c' i a b => by
  by_cases e : c' = c
  · subst e
    rw [am_up_eq, if_neg (fun q => hc.elim a (fun z => b (by rw [q]; exact z)))]
    exact h c' i a b
  · rw [am_up_ne e]
    exact h c' i a b
/-- f 0 + .. + f (n - 1) -/
def sm (f : Int → Int) : Nat → Int
  | 0 => 0
  | n + 1 => sm f n + f n
theorem sm_congr {f g : Int → Int} : ∀ {n : Nat}, (∀ i : Int, 0 ≤ i → i < n → f i = g i) → sm f n = sm g n
  | 0, _ => rfl
  | n + 1, h => by rw [sm, sm, sm_congr (fun i a b => h i a (by omega)), h n (by omega) (by omega)]
theorem sm_nn {f : Int → Int} : ∀ {n : Nat}, (∀ i : Int, 0 ≤ i → i < n → 0 ≤ f i) → 0 ≤ sm f n
  | 0, _ => Int.le_refl 0
  | n + 1, h => by
    have h1 := sm_nn (f := f) (n := n) (fun i a b => h i a (by omega))
    have h2 := h n (by omega) (by omega)
    rw [sm]
    omega
theorem sm_le {f g : Int → Int} : ∀ {n : Nat}, (∀ i : Int, 0 ≤ i → i < n → f i ≤ g i) → sm f n ≤ sm g n
  | 0, _ => Int.le_refl 0
  | n + 1, h => by
    have h1 := sm_le (f := f) (g := g) (n := n) (fun i a b => h i a (by omega))
    have h2 := h n (by omega) (by omega)
    rw [sm, sm]
    omega
theorem sm_part {f : Int → Int} {n : Nat} {k : Nat} (h : ∀ i : Int, 0 ≤ i → i < n → 0 ≤ f i) (hk : k ≤ n) : sm f k ≤ sm f n := by
  induction n with
  | zero => rw [show k = 0 by omega]; exact Int.le_refl _
  | succ n ih =>
    by_cases e : k = n + 1
    · rw [e]; exact Int.le_refl _
    · have h1 := ih (fun i a b => h i a (by omega)) (by omega)
      have h2 := h n (by omega) (by omega)
      rw [sm]
      omega
theorem sm_one {f : Int → Int} {n : Nat} {i : Int} (h : ∀ i : Int, 0 ≤ i → i < n → 0 ≤ f i) (h0 : 0 ≤ i) (h1 : i < n) : f i ≤ sm f n := by
  have h2 := sm_part (f := f) (n := n) (k := i.toNat + 1) h (by omega)
  have h3 := sm_nn (f := f) (n := i.toNat) (fun j a b => h j a (by omega))
  rw [sm, show ((i.toNat : Nat) : Int) = i by omega] at h2
  omega
theorem sm_zero {f : Int → Int} : ∀ {n : Nat}, (∀ i : Int, 0 ≤ i → i < n → f i = 0) → sm f n = 0
  | 0, _ => rfl
  | n + 1, h => by rw [sm, sm_zero (fun i a b => h i a (by omega)), h n (by omega) (by omega)]; rfl
theorem sm_add {f g : Int → Int} : ∀ {n : Nat}, sm (fun i => f i + g i) n = sm f n + sm g n
  | 0 => rfl
  | n + 1 => by rw [sm, sm, sm, sm_add]; omega
theorem sm_mul {c : Int} {f : Int → Int} : ∀ {n : Nat}, sm (fun i => c * f i) n = c * sm f n
  | 0 => by rw [sm, sm, Int.mul_zero]
  | n + 1 => by rw [sm, sm, sm_mul, Int.mul_add]
/-- how many of w 0 .. w (n - 1) are above 0 -/
def cp (w : Int → Int) : Nat → Int
  | 0 => 0
  | n + 1 => cp w n + (if 0 < w n then 1 else 0)
theorem cp_congr {f g : Int → Int} : ∀ {n : Nat}, (∀ i : Int, 0 ≤ i → i < n → f i = g i) → cp f n = cp g n
  | 0, _ => rfl
  | n + 1, h => by rw [cp, cp, cp_congr (fun i a b => h i a (by omega)), h n (by omega) (by omega)]
theorem cp_mono {w : Int → Int} {k n : Nat} (h : k ≤ n) : cp w k ≤ cp w n := by
  induction n with
  | zero => rw [show k = 0 by omega]; exact Int.le_refl _
  | succ n ih =>
    by_cases e : k = n + 1
    · rw [e]; exact Int.le_refl _
    · have := ih (by omega)
      rw [cp]
      split <;> omega
/-- the parts of a sum by weights, rounded down, and what is left one each -/
def pq (s : Int) (w : Int → Int) (n : Nat) (i : Int) : Int := s * w i / sm w n + (if 0 < w i ∧ cp w i.toNat < s - sm (fun j => s * w j / sm w n) n then 1 else 0)
theorem pq_floor {s : Int} {w : Int → Int} {n : Nat} (h0 : 0 ≤ s) (hs : s ≤ sm w n) (hp : 0 < sm w n) (hw : ∀ i : Int, 0 ≤ i → i < n → 0 ≤ w i) {i : Int} (hi : 0 ≤ i) (hn : i < n) : 0 ≤ s * w i / sm w n ∧ s * w i / sm w n ≤ w i ∧ (s < sm w n → 0 < w i → s * w i / sm w n < w i) := by
  have h1 := hw i hi hn
  refine ⟨Int.ediv_nonneg (Int.mul_nonneg h0 h1) (by omega), ?_, fun h2 h3 => ?_⟩
  · have h2 : s * w i ≤ sm w n * w i := Int.mul_le_mul_of_nonneg_right hs h1
    have h3 := Int.ediv_le_ediv hp h2
    rwa [Int.mul_ediv_cancel_left _ (by omega)] at h3
  · have h4 : s * w i < sm w n * w i := Int.mul_lt_mul_of_pos_right h2 h3
    exact Int.ediv_lt_of_lt_mul hp (by rw [Int.mul_comm (w i)]; exact h4)
theorem sp_fill_45 {Ln : Int} {d : Nat} (σ : AS) (v : Int) : am_M Ln (d + 1) 245 [vR 45, vI v] σ (am_rV fun σ' => ∃ f, σ' = zc σ 45 f ∧ ∀ i, 0 ≤ i → i < 10 → f i = v) := by
  have loop : ∀ (n : Nat) (k : Int) (f : Int → Int), 0 ≤ k → k + n = 10 → (∀ i, 0 ≤ i → i < k → f i = v) → am_E Ln d 245 5 [vR 45, vI v, vI k, vI 10] [] (zc σ 45 f) (am_rV fun σ' => ∃ f, σ' = zc σ 45 f ∧ ∀ i, 0 ≤ i → i < 10 → f i = v) := by
    intro n
    induction n with
    | zero =>
      intro k f h0 h1 h2
      exact vl_45_J7_fill_53178_5 _ _ _ _ ⟨fun _ => ⟨f, rfl, fun i a b => h2 i a (by omega)⟩, fun h => absurd (by omega) h⟩
    | succ n ih =>
      intro k f h0 h1 h2
      refine vl_45_J7_fill_53178_5 _ _ _ _ ⟨fun h => absurd h (by omega), fun _ => ⟨⟨h0, by omega⟩, ?_⟩⟩
      rw [up_zcs, w32_id (by omega) (by omega)]
      refine ih (k + 1) _ (by omega) (by omega) (fun i a b => ?_)
      by_cases e : i = k
      · rw [e, fu_eq]
      · rw [fu_ne e]; exact h2 i a (by omega)
  have h := loop 10 0 (σ 45) (by omega) (by omega) (fun i a b => by omega)
  rw [zc_self] at h
  exact vm_45_J7_fill_53178 _ _ h
theorem sp_fill_46 {Ln : Int} {d : Nat} (σ : AS) (v : Int) : am_M Ln (d + 1) 245 [vR 46, vI v] σ (am_rV fun σ' => ∃ f, σ' = zc σ 46 f ∧ ∀ i, 0 ≤ i → i < 100 → f i = v) := by
  have loop : ∀ (n : Nat) (k : Int) (f : Int → Int), 0 ≤ k → k + n = 100 → (∀ i, 0 ≤ i → i < k → f i = v) → am_E Ln d 245 5 [vR 46, vI v, vI k, vI 100] [] (zc σ 46 f) (am_rV fun σ' => ∃ f, σ' = zc σ 46 f ∧ ∀ i, 0 ≤ i → i < 100 → f i = v) := by
    intro n
    induction n with
    | zero =>
      intro k f h0 h1 h2
      exact vl_46_J7_fill_53178_5 _ _ _ _ ⟨fun _ => ⟨f, rfl, fun i a b => h2 i a (by omega)⟩, fun h => absurd (by omega) h⟩
    | succ n ih =>
      intro k f h0 h1 h2
      refine vl_46_J7_fill_53178_5 _ _ _ _ ⟨fun h => absurd h (by omega), fun _ => ⟨⟨h0, by omega⟩, ?_⟩⟩
      rw [up_zcs, w32_id (by omega) (by omega)]
      refine ih (k + 1) _ (by omega) (by omega) (fun i a b => ?_)
      by_cases e : i = k
      · rw [e, fu_eq]
      · rw [fu_ne e]; exact h2 i a (by omega)
  have h := loop 100 0 (σ 46) (by omega) (by omega) (fun i a b => by omega)
  rw [zc_self] at h
  exact vm_46_J7_fill_53178 _ _ h
theorem sp_fill_47 {Ln : Int} {d : Nat} (σ : AS) (v : Int) : am_M Ln (d + 1) 245 [vR 47, vI v] σ (am_rV fun σ' => ∃ f, σ' = zc σ 47 f ∧ ∀ i, 0 ≤ i → i < 100 → f i = v) := by
  have loop : ∀ (n : Nat) (k : Int) (f : Int → Int), 0 ≤ k → k + n = 100 → (∀ i, 0 ≤ i → i < k → f i = v) → am_E Ln d 245 5 [vR 47, vI v, vI k, vI 100] [] (zc σ 47 f) (am_rV fun σ' => ∃ f, σ' = zc σ 47 f ∧ ∀ i, 0 ≤ i → i < 100 → f i = v) := by
    intro n
    induction n with
    | zero =>
      intro k f h0 h1 h2
      exact vl_47_J7_fill_53178_5 _ _ _ _ ⟨fun _ => ⟨f, rfl, fun i a b => h2 i a (by omega)⟩, fun h => absurd (by omega) h⟩
    | succ n ih =>
      intro k f h0 h1 h2
      refine vl_47_J7_fill_53178_5 _ _ _ _ ⟨fun h => absurd h (by omega), fun _ => ⟨⟨h0, by omega⟩, ?_⟩⟩
      rw [up_zcs, w32_id (by omega) (by omega)]
      refine ih (k + 1) _ (by omega) (by omega) (fun i a b => ?_)
      by_cases e : i = k
      · rw [e, fu_eq]
      · rw [fu_ne e]; exact h2 i a (by omega)
  have h := loop 100 0 (σ 47) (by omega) (by omega) (fun i a b => by omega)
  rw [zc_self] at h
  exact vm_47_J7_fill_53178 _ _ h
theorem sp_fill_50 {Ln : Int} {d : Nat} (σ : AS) (v : Int) : am_M Ln (d + 1) 245 [vR 50, vI v] σ (am_rV fun σ' => ∃ f, σ' = zc σ 50 f ∧ ∀ i, 0 ≤ i → i < 10 → f i = v) := by
  have loop : ∀ (n : Nat) (k : Int) (f : Int → Int), 0 ≤ k → k + n = 10 → (∀ i, 0 ≤ i → i < k → f i = v) → am_E Ln d 245 5 [vR 50, vI v, vI k, vI 10] [] (zc σ 50 f) (am_rV fun σ' => ∃ f, σ' = zc σ 50 f ∧ ∀ i, 0 ≤ i → i < 10 → f i = v) := by
    intro n
    induction n with
    | zero =>
      intro k f h0 h1 h2
      exact vl_50_J7_fill_53178_5 _ _ _ _ ⟨fun _ => ⟨f, rfl, fun i a b => h2 i a (by omega)⟩, fun h => absurd (by omega) h⟩
    | succ n ih =>
      intro k f h0 h1 h2
      refine vl_50_J7_fill_53178_5 _ _ _ _ ⟨fun h => absurd h (by omega), fun _ => ⟨⟨h0, by omega⟩, ?_⟩⟩
      rw [up_zcs, w32_id (by omega) (by omega)]
      refine ih (k + 1) _ (by omega) (by omega) (fun i a b => ?_)
      by_cases e : i = k
      · rw [e, fu_eq]
      · rw [fu_ne e]; exact h2 i a (by omega)
  have h := loop 10 0 (σ 50) (by omega) (by omega) (fun i a b => by omega)
  rw [zc_self] at h
  exact vm_50_J7_fill_53178 _ _ h
theorem sp_fill_51 {Ln : Int} {d : Nat} (σ : AS) (v : Int) : am_M Ln (d + 1) 245 [vR 51, vI v] σ (am_rV fun σ' => ∃ f, σ' = zc σ 51 f ∧ ∀ i, 0 ≤ i → i < 10 → f i = v) := by
  have loop : ∀ (n : Nat) (k : Int) (f : Int → Int), 0 ≤ k → k + n = 10 → (∀ i, 0 ≤ i → i < k → f i = v) → am_E Ln d 245 5 [vR 51, vI v, vI k, vI 10] [] (zc σ 51 f) (am_rV fun σ' => ∃ f, σ' = zc σ 51 f ∧ ∀ i, 0 ≤ i → i < 10 → f i = v) := by
    intro n
    induction n with
    | zero =>
      intro k f h0 h1 h2
      exact vl_51_J7_fill_53178_5 _ _ _ _ ⟨fun _ => ⟨f, rfl, fun i a b => h2 i a (by omega)⟩, fun h => absurd (by omega) h⟩
    | succ n ih =>
      intro k f h0 h1 h2
      refine vl_51_J7_fill_53178_5 _ _ _ _ ⟨fun h => absurd h (by omega), fun _ => ⟨⟨h0, by omega⟩, ?_⟩⟩
      rw [up_zcs, w32_id (by omega) (by omega)]
      refine ih (k + 1) _ (by omega) (by omega) (fun i a b => ?_)
      by_cases e : i = k
      · rw [e, fu_eq]
      · rw [fu_ne e]; exact h2 i a (by omega)
  have h := loop 10 0 (σ 51) (by omega) (by omega) (fun i a b => by omega)
  rw [zc_self] at h
  exact vm_51_J7_fill_53178 _ _ h
theorem sp_fill_36 {Ln : Int} {d : Nat} (σ : AS) (v : Int) : am_M Ln (d + 1) 245 [vR 36, vI v] σ (am_rV fun σ' => ∃ f, σ' = zc σ 36 f ∧ ∀ i, 0 ≤ i → i < 20 → f i = v) := by
  have loop : ∀ (n : Nat) (k : Int) (f : Int → Int), 0 ≤ k → k + n = 20 → (∀ i, 0 ≤ i → i < k → f i = v) → am_E Ln d 245 5 [vR 36, vI v, vI k, vI 20] [] (zc σ 36 f) (am_rV fun σ' => ∃ f, σ' = zc σ 36 f ∧ ∀ i, 0 ≤ i → i < 20 → f i = v) := by
    intro n
    induction n with
    | zero =>
      intro k f h0 h1 h2
      exact vl_36_J7_fill_53178_5 _ _ _ _ ⟨fun _ => ⟨f, rfl, fun i a b => h2 i a (by omega)⟩, fun h => absurd (by omega) h⟩
    | succ n ih =>
      intro k f h0 h1 h2
      refine vl_36_J7_fill_53178_5 _ _ _ _ ⟨fun h => absurd h (by omega), fun _ => ⟨⟨h0, by omega⟩, ?_⟩⟩
      rw [up_zcs, w32_id (by omega) (by omega)]
      refine ih (k + 1) _ (by omega) (by omega) (fun i a b => ?_)
      by_cases e : i = k
      · rw [e, fu_eq]
      · rw [fu_ne e]; exact h2 i a (by omega)
  have h := loop 20 0 (σ 36) (by omega) (by omega) (fun i a b => by omega)
  rw [zc_self] at h
  exact vm_36_J7_fill_53178 _ _ h
theorem sp_fill_66 {Ln : Int} {d : Nat} (σ : AS) (v : Int) : am_M Ln (d + 1) 245 [vR 66, vI v] σ (am_rV fun σ' => ∃ f, σ' = zc σ 66 f ∧ ∀ i, 0 ≤ i → i < 10 → f i = v) := by
  have loop : ∀ (n : Nat) (k : Int) (f : Int → Int), 0 ≤ k → k + n = 10 → (∀ i, 0 ≤ i → i < k → f i = v) → am_E Ln d 245 5 [vR 66, vI v, vI k, vI 10] [] (zc σ 66 f) (am_rV fun σ' => ∃ f, σ' = zc σ 66 f ∧ ∀ i, 0 ≤ i → i < 10 → f i = v) := by
    intro n
    induction n with
    | zero =>
      intro k f h0 h1 h2
      exact vl_66_J7_fill_53178_5 _ _ _ _ ⟨fun _ => ⟨f, rfl, fun i a b => h2 i a (by omega)⟩, fun h => absurd (by omega) h⟩
    | succ n ih =>
      intro k f h0 h1 h2
      refine vl_66_J7_fill_53178_5 _ _ _ _ ⟨fun h => absurd h (by omega), fun _ => ⟨⟨h0, by omega⟩, ?_⟩⟩
      rw [up_zcs, w32_id (by omega) (by omega)]
      refine ih (k + 1) _ (by omega) (by omega) (fun i a b => ?_)
      by_cases e : i = k
      · rw [e, fu_eq]
      · rw [fu_ne e]; exact h2 i a (by omega)
  have h := loop 10 0 (σ 66) (by omega) (by omega) (fun i a b => by omega)
  rw [zc_self] at h
  exact vm_66_J7_fill_53178 _ _ h
theorem sp_fill_80 {Ln : Int} {d : Nat} (σ : AS) (v : Int) : am_M Ln (d + 1) 245 [vR 80, vI v] σ (am_rV fun σ' => ∃ f, σ' = zc σ 80 f ∧ ∀ i, 0 ≤ i → i < 40 → f i = v) := by
  have loop : ∀ (n : Nat) (k : Int) (f : Int → Int), 0 ≤ k → k + n = 40 → (∀ i, 0 ≤ i → i < k → f i = v) → am_E Ln d 245 5 [vR 80, vI v, vI k, vI 40] [] (zc σ 80 f) (am_rV fun σ' => ∃ f, σ' = zc σ 80 f ∧ ∀ i, 0 ≤ i → i < 40 → f i = v) := by
    intro n
    induction n with
    | zero =>
      intro k f h0 h1 h2
      exact vl_80_J7_fill_53178_5 _ _ _ _ ⟨fun _ => ⟨f, rfl, fun i a b => h2 i a (by omega)⟩, fun h => absurd (by omega) h⟩
    | succ n ih =>
      intro k f h0 h1 h2
      refine vl_80_J7_fill_53178_5 _ _ _ _ ⟨fun h => absurd h (by omega), fun _ => ⟨⟨h0, by omega⟩, ?_⟩⟩
      rw [up_zcs, w32_id (by omega) (by omega)]
      refine ih (k + 1) _ (by omega) (by omega) (fun i a b => ?_)
      by_cases e : i = k
      · rw [e, fu_eq]
      · rw [fu_ne e]; exact h2 i a (by omega)
  have h := loop 40 0 (σ 80) (by omega) (by omega) (fun i a b => by omega)
  rw [zc_self] at h
  exact vm_80_J7_fill_53178 _ _ h
theorem sp_fill_81 {Ln : Int} {d : Nat} (σ : AS) (v : Int) : am_M Ln (d + 1) 245 [vR 81, vI v] σ (am_rV fun σ' => ∃ f, σ' = zc σ 81 f ∧ ∀ i, 0 ≤ i → i < 40 → f i = v) := by
  have loop : ∀ (n : Nat) (k : Int) (f : Int → Int), 0 ≤ k → k + n = 40 → (∀ i, 0 ≤ i → i < k → f i = v) → am_E Ln d 245 5 [vR 81, vI v, vI k, vI 40] [] (zc σ 81 f) (am_rV fun σ' => ∃ f, σ' = zc σ 81 f ∧ ∀ i, 0 ≤ i → i < 40 → f i = v) := by
    intro n
    induction n with
    | zero =>
      intro k f h0 h1 h2
      exact vl_81_J7_fill_53178_5 _ _ _ _ ⟨fun _ => ⟨f, rfl, fun i a b => h2 i a (by omega)⟩, fun h => absurd (by omega) h⟩
    | succ n ih =>
      intro k f h0 h1 h2
      refine vl_81_J7_fill_53178_5 _ _ _ _ ⟨fun h => absurd h (by omega), fun _ => ⟨⟨h0, by omega⟩, ?_⟩⟩
      rw [up_zcs, w32_id (by omega) (by omega)]
      refine ih (k + 1) _ (by omega) (by omega) (fun i a b => ?_)
      by_cases e : i = k
      · rw [e, fu_eq]
      · rw [fu_ne e]; exact h2 i a (by omega)
  have h := loop 40 0 (σ 81) (by omega) (by omega) (fun i a b => by omega)
  rw [zc_self] at h
  exact vm_81_J7_fill_53178 _ _ h
theorem sp_fill_52 {Ln : Int} {d : Nat} (σ : AS) (v : Int) : am_M Ln (d + 1) 245 [vR 52, vI v] σ (am_rV fun σ' => ∃ f, σ' = zc σ 52 f ∧ ∀ i, 0 ≤ i → i < 10 → f i = v) := by
  have loop : ∀ (n : Nat) (k : Int) (f : Int → Int), 0 ≤ k → k + n = 10 → (∀ i, 0 ≤ i → i < k → f i = v) → am_E Ln d 245 5 [vR 52, vI v, vI k, vI 10] [] (zc σ 52 f) (am_rV fun σ' => ∃ f, σ' = zc σ 52 f ∧ ∀ i, 0 ≤ i → i < 10 → f i = v) := by
    intro n
    induction n with
    | zero =>
      intro k f h0 h1 h2
      exact vl_52_J7_fill_53178_5 _ _ _ _ ⟨fun _ => ⟨f, rfl, fun i a b => h2 i a (by omega)⟩, fun h => absurd (by omega) h⟩
    | succ n ih =>
      intro k f h0 h1 h2
      refine vl_52_J7_fill_53178_5 _ _ _ _ ⟨fun h => absurd h (by omega), fun _ => ⟨⟨h0, by omega⟩, ?_⟩⟩
      rw [up_zcs, w32_id (by omega) (by omega)]
      refine ih (k + 1) _ (by omega) (by omega) (fun i a b => ?_)
      by_cases e : i = k
      · rw [e, fu_eq]
      · rw [fu_ne e]; exact h2 i a (by omega)
  have h := loop 10 0 (σ 52) (by omega) (by omega) (fun i a b => by omega)
  rw [zc_self] at h
  exact vm_52_J7_fill_53178 _ _ h
theorem sp_fill_68 {Ln : Int} {d : Nat} (σ : AS) (v : Int) : am_M Ln (d + 1) 245 [vR 68, vI v] σ (am_rV fun σ' => ∃ f, σ' = zc σ 68 f ∧ ∀ i, 0 ≤ i → i < 10 → f i = v) := by
  have loop : ∀ (n : Nat) (k : Int) (f : Int → Int), 0 ≤ k → k + n = 10 → (∀ i, 0 ≤ i → i < k → f i = v) → am_E Ln d 245 5 [vR 68, vI v, vI k, vI 10] [] (zc σ 68 f) (am_rV fun σ' => ∃ f, σ' = zc σ 68 f ∧ ∀ i, 0 ≤ i → i < 10 → f i = v) := by
    intro n
    induction n with
    | zero =>
      intro k f h0 h1 h2
      exact vl_68_J7_fill_53178_5 _ _ _ _ ⟨fun _ => ⟨f, rfl, fun i a b => h2 i a (by omega)⟩, fun h => absurd (by omega) h⟩
    | succ n ih =>
      intro k f h0 h1 h2
      refine vl_68_J7_fill_53178_5 _ _ _ _ ⟨fun h => absurd h (by omega), fun _ => ⟨⟨h0, by omega⟩, ?_⟩⟩
      rw [up_zcs, w32_id (by omega) (by omega)]
      refine ih (k + 1) _ (by omega) (by omega) (fun i a b => ?_)
      by_cases e : i = k
      · rw [e, fu_eq]
      · rw [fu_ne e]; exact h2 i a (by omega)
  have h := loop 10 0 (σ 68) (by omega) (by omega) (fun i a b => by omega)
  rw [zc_self] at h
  exact vm_68_J7_fill_53178 _ _ h
theorem pq_sum {s : Int} {w : Int → Int} {n : Nat} (h0 : 0 ≤ s) (hp : 0 < sm w n) (hw : ∀ i : Int, 0 ≤ i → i < n → 0 ≤ w i) : ∀ {k : Nat}, k ≤ n → 0 ≤ sm (fun j => s * w j / sm w n) k ∧ sm (fun j => s * w j / sm w n) k ≤ s := by
  have key : ∀ k : Nat, sm w n * sm (fun j => s * w j / sm w n) k ≤ s * sm w k := by
    intro k
    induction k with
    | zero => simp [sm]
    | succ k ih =>
      rw [sm, sm, Int.mul_add, Int.mul_add]
      have := Int.mul_ediv_self_le (x := s * w k) (k := sm w n) (by omega)
      omega
  intro k hk
  refine ⟨sm_nn (fun i a b => Int.ediv_nonneg (Int.mul_nonneg h0 (hw i a (by omega))) (by omega)), ?_⟩
  have h1 := key k
  have h2 : s * sm w k ≤ s * sm w n := Int.mul_le_mul_of_nonneg_left (sm_part hw hk) h0
  have h3 : sm w n * sm (fun j => s * w j / sm w n) k ≤ sm w n * s := by rw [Int.mul_comm (sm w n) s]; omega
  exact Int.le_of_mul_le_mul_left h3 hp
theorem pq_each {s : Int} {w : Int → Int} {n : Nat} (h0 : 0 ≤ s) (hp : 0 < sm w n) (hw : ∀ i : Int, 0 ≤ i → i < n → 0 ≤ w i) {i : Int} (hi : 0 ≤ i) (hn : i < n) : 0 ≤ s * w i / sm w n ∧ s * w i / sm w n ≤ s := by
  have h1 := hw i hi hn
  refine ⟨Int.ediv_nonneg (Int.mul_nonneg h0 h1) (by omega), ?_⟩
  have h2 : s * w i ≤ s * sm w n := Int.mul_le_mul_of_nonneg_left (sm_one hw hi hn) h0
  have h3 := Int.ediv_le_ediv hp h2
  rwa [Int.mul_ediv_cancel _ (by omega)] at h3
set_option maxHeartbeats 4000000 in
theorem sp_portion_a {Ln : Int} {d : Nat} (σ : AS) (s : Int) (h0 : 0 ≤ s) (hs : s ≤ 1000000000) (hw : ∀ i : Int, 0 ≤ i → i < (10 : Nat) → 0 ≤ σ 51 i) (hw2 : ∀ i : Int, 0 ≤ i → i < (10 : Nat) → σ 51 i ≤ 1000000000) :
    am_M Ln (d + 2) 133 [vI s, vR 51, vR 52] σ (am_rV fun σ' => ∃ f, σ' = zc σ 52 f ∧ ∀ i : Int, 0 ≤ i → i < (10 : Nat) → f i = if sm (σ 51) 10 = 0 then 0 else pq s (σ 51) 10 i) := by
  obtain ⟨w, hwd⟩ : ∃ w, w = σ 51 := ⟨_, rfl⟩
  rw [← hwd] at hw hw2 ⊢
  have hall : ∀ k : Nat, k ≤ 10 → 0 ≤ sm w k ∧ sm w k ≤ 1000000000 * k := by
    intro k hk
    refine ⟨sm_nn (fun i a b => hw i a (by omega)), ?_⟩
    have h2 := sm_le (f := w) (g := fun _ => 1000000000) (n := k) (fun i a b => hw2 i a (by omega))
    have h3 : sm (fun _ => 1000000000) k = 1000000000 * k := by
      clear h2 hk
      induction k with
      | zero => rfl
      | succ k ih => rw [sm, ih]; omega
    omega
  have l3 : ∀ (P : AS → Prop) (m : Nat) (k : Nat) (f : Int → Int) (x : Int), k + m = 10 → 0 ≤ x → x ≤ 1000000000 → (∀ i : Int, (k : Int) ≤ i → i < (10 : Nat) → 0 ≤ f i ∧ f i ≤ 1000000000) → (∀ g : Int → Int, (∀ i : Int, i < k → g i = f i) → (∀ i : Int, k ≤ i → i < (10 : Nat) → g i = f i + (if 0 < w i ∧ cp w i.toNat - cp w k < x then 1 else 0)) → P (zc σ 52 g)) →
      am_E Ln (d + 1) 133 91 [vU, vR 51, vR 52, vU, vU, vI x, vI (k : Int)] [] (zc σ 52 f) (am_rV P) := by
    intro P m
    induction m with
    | zero =>
      intro k f x hk hx hx2 hf hP
      exact vl_a_X11_portion_91 _ _ _ ⟨fun _ => hP f (fun _ _ => rfl) (fun i a b => by omega), fun h => absurd (by omega) h⟩
    | succ m ih =>
      intro k f x hk hx hx2 hf hP
      refine vl_a_X11_portion_91 _ _ _ ⟨fun h => absurd h (by omega), fun _ => ⟨fun h => absurd h (by omega), fun _ => ⟨fun h => ?_, fun h => ⟨⟨by omega, by omega⟩, fun h2 => ?_, fun h2 => ⟨⟨by omega, by omega⟩, ⟨by omega, by omega⟩, ?_⟩⟩⟩⟩⟩
      · refine hP f (fun _ _ => rfl) (fun i a b => ?_)
        have := cp_mono (w := w) (k := k) (n := i.toNat) (by omega)
        rw [if_neg (by omega)]
        omega
      · rw [zc_ne (by decide), ← hwd] at h2
        rw [w32_id (by omega) (by omega), show (k : Int) + 1 = ((k + 1 : Nat) : Int) by omega]
        refine ih (k + 1) f x (by omega) hx hx2 (fun i a b => hf i (by omega) b) (fun g g1 g2 => hP g (fun i a => g1 i (by omega)) (fun i a b => ?_))
        have hc : cp w (k + 1) = cp w k := by rw [cp, if_neg (by omega)]; omega
        by_cases e : i = (k : Int)
        · rw [g1 i (by omega), if_neg (fun q => by have := q.1; rw [e] at this; omega)]
          omega
        · rw [g2 i (by omega) b, hc]
      · rw [zc_ne (by decide), ← hwd] at h2
        have hfk := hf k (by omega) (by omega)
        rw [zc_eq, up_zcs, w32_id (x := x + -1) (by omega) (by omega), w32_id (x := (k : Int) + 1) (by omega) (by omega), w32_id (x := f k + 1) (by omega) (by omega), show (k : Int) + 1 = ((k + 1 : Nat) : Int) by omega]
        have hc : cp w (k + 1) = cp w k + 1 := by rw [cp, if_pos (by omega)]
        refine ih (k + 1) _ (x + -1) (by omega) (by omega) (by omega) (fun i a b => by rw [fu_ne (by omega)]; exact hf i (by omega) b) (fun g g1 g2 => hP g (fun i a => by rw [g1 i (by omega), fu_ne (by omega)]) (fun i a b => ?_))
        by_cases e : i = (k : Int)
        · rw [g1 i (by omega), e, fu_eq, if_pos ⟨by omega, by rw [show ((k : Int)).toNat = k by omega]; omega⟩]
        · rw [g2 i (by omega) b, fu_ne e, hc]
          congr 1
          by_cases q : 0 < w i ∧ cp w i.toNat - cp w k < x
          · rw [if_pos q, if_pos (by omega)]
          · rw [if_neg q, if_neg (by omega)]
  have l2 : ∀ (m : Nat) (k : Nat) (f : Int → Int), k + m = 10 → 0 < sm w 10 → (∀ i : Int, 0 ≤ i → i < k → f i = s * w i / sm w 10) →
      am_E Ln (d + 1) 133 44 [vI s, vR 51, vR 52, vL (sm w 10), vU, vI (s - sm (fun j => s * w j / sm w 10) k), vI (k : Int)] [] (zc σ 52 f) (am_rV fun σ' => ∃ f, σ' = zc σ 52 f ∧ ∀ i : Int, 0 ≤ i → i < (10 : Nat) → f i = if sm w 10 = 0 then 0 else pq s w 10 i) := by
    intro m
    induction m with
    | zero =>
      intro k f hk hp hf
      have hk : k = 10 := by omega
      subst hk
      have hsum := pq_sum h0 hp hw (k := 10) (Nat.le_refl _)
      have hE := l3 (fun σ' => ∃ f, σ' = zc σ 52 f ∧ ∀ i : Int, 0 ≤ i → i < (10 : Nat) → f i = if sm w 10 = 0 then 0 else pq s w 10 i) 10 0 f (s - sm (fun j => s * w j / sm w 10) 10) rfl (by omega) (by omega) (fun i a b => by
        have := pq_each h0 hp hw a b
        rw [hf i a b]; omega) (fun g g1 g2 => ⟨g, rfl, fun i a b => by
          rw [if_neg (by omega), g2 i (by omega) b, hf i a b, pq]
          show _ + (if 0 < w i ∧ cp w i.toNat - 0 < _ then _ else _) = _
          rw [Int.sub_zero]⟩)
      exact vl_a_X11_portion_44 _ _ _ _ _ ⟨fun _ => hE, fun h => absurd (by omega) h⟩
    | succ m ih =>
      intro k f hk hp hf
      have hsum := pq_sum h0 hp hw (k := k) (by omega)
      have hsum2 := pq_sum h0 hp hw (k := k + 1) (by omega)
      have hea := pq_each h0 hp hw (i := k) (by omega) (by omega)
      have hwk := hw k (by omega) (by omega)
      have hwk2 := hw2 k (by omega) (by omega)
      have hmul : 0 ≤ s * w k ∧ s * w k ≤ 1000000000000000000 := ⟨Int.mul_nonneg h0 hwk, by
        have a1 : s * w k ≤ 1000000000 * w k := Int.mul_le_mul_of_nonneg_right hs hwk
        omega⟩
      refine vl_a_X11_portion_44 _ _ _ _ _ ⟨fun h => absurd h (by omega), fun _ => ⟨fun h => absurd h (by omega), fun _ => ⟨⟨by omega, by omega⟩, by omega, ⟨by omega, by omega⟩, ⟨by omega, by omega⟩, ?_⟩⟩⟩
      rw [am_up_eq, if_pos rfl, zc_ne (show 51 ≠ 52 by decide), ← hwd, up_zcs, w64_id (x := s * w k) (by omega) (by omega), tdiv_nn hmul.1, w64_id (by omega) (by omega), w32_id (x := s * w k / sm w 10) (by omega) (by omega), w32_id (x := (k : Int) + 1) (by omega) (by omega), show (k : Int) + 1 = ((k + 1 : Nat) : Int) by omega]
      rw [sm] at hsum2
      rw [w32_id (by omega) (by omega)]
      have e1 : s - sm (fun j => s * w j / sm w 10) k - s * w k / sm w 10 = s - sm (fun j => s * w j / sm w 10) (k + 1) := by
        rw [show sm (fun j => s * w j / sm w 10) (k + 1) = sm (fun j => s * w j / sm w 10) k + s * w k / sm w 10 from rfl]
        omega
      rw [e1]
      refine ih (k + 1) _ (by omega) hp (fun i a b => ?_)
      by_cases e : i = (k : Int)
      · rw [e, fu_eq]
      · rw [fu_ne e]; exact hf i a (by omega)
  have l1 : ∀ (m : Nat) (k : Nat), k + m = 10 → am_E Ln (d + 1) 133 5 [vI s, vR 51, vR 52, vL (sm w k), vU, vI (k : Int), vU] [] σ (am_rV fun σ' => ∃ f, σ' = zc σ 52 f ∧ ∀ i : Int, 0 ≤ i → i < (10 : Nat) → f i = if sm w 10 = 0 then 0 else pq s w 10 i) := by
    intro m
    induction m with
    | zero =>
      intro k hk
      have hk : k = 10 := by omega
      subst hk
      have ha := hall 10 (Nat.le_refl _)
      refine vl_a_X11_portion_5 _ _ _ _ ⟨fun _ => cV (sp_fill_52 σ 0) ?_, fun h => absurd (by omega) h⟩
      rintro s1 ⟨f, rfl, hf⟩
      refine ⟨fun h => ?_, fun h => ?_⟩
      · rw [lCmp_gt] at h
        have q := l2 10 0 f rfl h (fun i a b => by omega)
        rw [show sm (fun j => s * w j / sm w 10) 0 = 0 from rfl, Int.sub_zero] at q
        exact q
      · rw [lCmp_gt] at h
        exact ⟨f, rfl, fun i a b => by rw [if_pos (by omega)]; exact hf i a (by omega)⟩
    | succ m ih =>
      intro k hk
      have ha := hall (k + 1) (by omega)
      have hb := hall k (by omega)
      rw [sm] at ha
      refine vl_a_X11_portion_5 _ _ _ _ ⟨fun h => absurd h (by omega), fun _ => ⟨⟨by omega, by omega⟩, ?_⟩⟩
      rw [← hwd, w64_id (by omega) (by omega), w32_id (by omega) (by omega), show (k : Int) + 1 = ((k + 1 : Nat) : Int) by omega]
      exact ih (k + 1) (by omega)
  exact vm_a_X11_portion _ _ (l1 10 0 rfl)
set_option maxHeartbeats 4000000 in
theorem sp_portion_b {Ln : Int} {d : Nat} (σ : AS) (s : Int) (h0 : 0 ≤ s) (hs : s ≤ 1000000000) (hw : ∀ i : Int, 0 ≤ i → i < (10 : Nat) → 0 ≤ σ 67 i) (hw2 : ∀ i : Int, 0 ≤ i → i < (10 : Nat) → σ 67 i ≤ 1000000000) :
    am_M Ln (d + 2) 133 [vI s, vR 67, vR 68] σ (am_rV fun σ' => ∃ f, σ' = zc σ 68 f ∧ ∀ i : Int, 0 ≤ i → i < (10 : Nat) → f i = if sm (σ 67) 10 = 0 then 0 else pq s (σ 67) 10 i) := by
  obtain ⟨w, hwd⟩ : ∃ w, w = σ 67 := ⟨_, rfl⟩
  rw [← hwd] at hw hw2 ⊢
  have hall : ∀ k : Nat, k ≤ 10 → 0 ≤ sm w k ∧ sm w k ≤ 1000000000 * k := by
    intro k hk
    refine ⟨sm_nn (fun i a b => hw i a (by omega)), ?_⟩
    have h2 := sm_le (f := w) (g := fun _ => 1000000000) (n := k) (fun i a b => hw2 i a (by omega))
    have h3 : sm (fun _ => 1000000000) k = 1000000000 * k := by
      clear h2 hk
      induction k with
      | zero => rfl
      | succ k ih => rw [sm, ih]; omega
    omega
  have l3 : ∀ (P : AS → Prop) (m : Nat) (k : Nat) (f : Int → Int) (x : Int), k + m = 10 → 0 ≤ x → x ≤ 1000000000 → (∀ i : Int, (k : Int) ≤ i → i < (10 : Nat) → 0 ≤ f i ∧ f i ≤ 1000000000) → (∀ g : Int → Int, (∀ i : Int, i < k → g i = f i) → (∀ i : Int, k ≤ i → i < (10 : Nat) → g i = f i + (if 0 < w i ∧ cp w i.toNat - cp w k < x then 1 else 0)) → P (zc σ 68 g)) →
      am_E Ln (d + 1) 133 91 [vU, vR 67, vR 68, vU, vU, vI x, vI (k : Int)] [] (zc σ 68 f) (am_rV P) := by
    intro P m
    induction m with
    | zero =>
      intro k f x hk hx hx2 hf hP
      exact vl_b_X11_portion_91 _ _ _ ⟨fun _ => hP f (fun _ _ => rfl) (fun i a b => by omega), fun h => absurd (by omega) h⟩
    | succ m ih =>
      intro k f x hk hx hx2 hf hP
      refine vl_b_X11_portion_91 _ _ _ ⟨fun h => absurd h (by omega), fun _ => ⟨fun h => absurd h (by omega), fun _ => ⟨fun h => ?_, fun h => ⟨⟨by omega, by omega⟩, fun h2 => ?_, fun h2 => ⟨⟨by omega, by omega⟩, ⟨by omega, by omega⟩, ?_⟩⟩⟩⟩⟩
      · refine hP f (fun _ _ => rfl) (fun i a b => ?_)
        have := cp_mono (w := w) (k := k) (n := i.toNat) (by omega)
        rw [if_neg (by omega)]
        omega
      · rw [zc_ne (by decide), ← hwd] at h2
        rw [w32_id (by omega) (by omega), show (k : Int) + 1 = ((k + 1 : Nat) : Int) by omega]
        refine ih (k + 1) f x (by omega) hx hx2 (fun i a b => hf i (by omega) b) (fun g g1 g2 => hP g (fun i a => g1 i (by omega)) (fun i a b => ?_))
        have hc : cp w (k + 1) = cp w k := by rw [cp, if_neg (by omega)]; omega
        by_cases e : i = (k : Int)
        · rw [g1 i (by omega), if_neg (fun q => by have := q.1; rw [e] at this; omega)]
          omega
        · rw [g2 i (by omega) b, hc]
      · rw [zc_ne (by decide), ← hwd] at h2
        have hfk := hf k (by omega) (by omega)
        rw [zc_eq, up_zcs, w32_id (x := x + -1) (by omega) (by omega), w32_id (x := (k : Int) + 1) (by omega) (by omega), w32_id (x := f k + 1) (by omega) (by omega), show (k : Int) + 1 = ((k + 1 : Nat) : Int) by omega]
        have hc : cp w (k + 1) = cp w k + 1 := by rw [cp, if_pos (by omega)]
        refine ih (k + 1) _ (x + -1) (by omega) (by omega) (by omega) (fun i a b => by rw [fu_ne (by omega)]; exact hf i (by omega) b) (fun g g1 g2 => hP g (fun i a => by rw [g1 i (by omega), fu_ne (by omega)]) (fun i a b => ?_))
        by_cases e : i = (k : Int)
        · rw [g1 i (by omega), e, fu_eq, if_pos ⟨by omega, by rw [show ((k : Int)).toNat = k by omega]; omega⟩]
        · rw [g2 i (by omega) b, fu_ne e, hc]
          congr 1
          by_cases q : 0 < w i ∧ cp w i.toNat - cp w k < x
          · rw [if_pos q, if_pos (by omega)]
          · rw [if_neg q, if_neg (by omega)]
  have l2 : ∀ (m : Nat) (k : Nat) (f : Int → Int), k + m = 10 → 0 < sm w 10 → (∀ i : Int, 0 ≤ i → i < k → f i = s * w i / sm w 10) →
      am_E Ln (d + 1) 133 44 [vI s, vR 67, vR 68, vL (sm w 10), vU, vI (s - sm (fun j => s * w j / sm w 10) k), vI (k : Int)] [] (zc σ 68 f) (am_rV fun σ' => ∃ f, σ' = zc σ 68 f ∧ ∀ i : Int, 0 ≤ i → i < (10 : Nat) → f i = if sm w 10 = 0 then 0 else pq s w 10 i) := by
    intro m
    induction m with
    | zero =>
      intro k f hk hp hf
      have hk : k = 10 := by omega
      subst hk
      have hsum := pq_sum h0 hp hw (k := 10) (Nat.le_refl _)
      have hE := l3 (fun σ' => ∃ f, σ' = zc σ 68 f ∧ ∀ i : Int, 0 ≤ i → i < (10 : Nat) → f i = if sm w 10 = 0 then 0 else pq s w 10 i) 10 0 f (s - sm (fun j => s * w j / sm w 10) 10) rfl (by omega) (by omega) (fun i a b => by
        have := pq_each h0 hp hw a b
        rw [hf i a b]; omega) (fun g g1 g2 => ⟨g, rfl, fun i a b => by
          rw [if_neg (by omega), g2 i (by omega) b, hf i a b, pq]
          show _ + (if 0 < w i ∧ cp w i.toNat - 0 < _ then _ else _) = _
          rw [Int.sub_zero]⟩)
      exact vl_b_X11_portion_44 _ _ _ _ _ ⟨fun _ => hE, fun h => absurd (by omega) h⟩
    | succ m ih =>
      intro k f hk hp hf
      have hsum := pq_sum h0 hp hw (k := k) (by omega)
      have hsum2 := pq_sum h0 hp hw (k := k + 1) (by omega)
      have hea := pq_each h0 hp hw (i := k) (by omega) (by omega)
      have hwk := hw k (by omega) (by omega)
      have hwk2 := hw2 k (by omega) (by omega)
      have hmul : 0 ≤ s * w k ∧ s * w k ≤ 1000000000000000000 := ⟨Int.mul_nonneg h0 hwk, by
        have a1 : s * w k ≤ 1000000000 * w k := Int.mul_le_mul_of_nonneg_right hs hwk
        omega⟩
      refine vl_b_X11_portion_44 _ _ _ _ _ ⟨fun h => absurd h (by omega), fun _ => ⟨fun h => absurd h (by omega), fun _ => ⟨⟨by omega, by omega⟩, by omega, ⟨by omega, by omega⟩, ⟨by omega, by omega⟩, ?_⟩⟩⟩
      rw [am_up_eq, if_pos rfl, zc_ne (show 67 ≠ 68 by decide), ← hwd, up_zcs, w64_id (x := s * w k) (by omega) (by omega), tdiv_nn hmul.1, w64_id (by omega) (by omega), w32_id (x := s * w k / sm w 10) (by omega) (by omega), w32_id (x := (k : Int) + 1) (by omega) (by omega), show (k : Int) + 1 = ((k + 1 : Nat) : Int) by omega]
      rw [sm] at hsum2
      rw [w32_id (by omega) (by omega)]
      have e1 : s - sm (fun j => s * w j / sm w 10) k - s * w k / sm w 10 = s - sm (fun j => s * w j / sm w 10) (k + 1) := by
        rw [show sm (fun j => s * w j / sm w 10) (k + 1) = sm (fun j => s * w j / sm w 10) k + s * w k / sm w 10 from rfl]
        omega
      rw [e1]
      refine ih (k + 1) _ (by omega) hp (fun i a b => ?_)
      by_cases e : i = (k : Int)
      · rw [e, fu_eq]
      · rw [fu_ne e]; exact hf i a (by omega)
  have l1 : ∀ (m : Nat) (k : Nat), k + m = 10 → am_E Ln (d + 1) 133 5 [vI s, vR 67, vR 68, vL (sm w k), vU, vI (k : Int), vU] [] σ (am_rV fun σ' => ∃ f, σ' = zc σ 68 f ∧ ∀ i : Int, 0 ≤ i → i < (10 : Nat) → f i = if sm w 10 = 0 then 0 else pq s w 10 i) := by
    intro m
    induction m with
    | zero =>
      intro k hk
      have hk : k = 10 := by omega
      subst hk
      have ha := hall 10 (Nat.le_refl _)
      refine vl_b_X11_portion_5 _ _ _ _ ⟨fun _ => cV (sp_fill_68 σ 0) ?_, fun h => absurd (by omega) h⟩
      rintro s1 ⟨f, rfl, hf⟩
      refine ⟨fun h => ?_, fun h => ?_⟩
      · rw [lCmp_gt] at h
        have q := l2 10 0 f rfl h (fun i a b => by omega)
        rw [show sm (fun j => s * w j / sm w 10) 0 = 0 from rfl, Int.sub_zero] at q
        exact q
      · rw [lCmp_gt] at h
        exact ⟨f, rfl, fun i a b => by rw [if_pos (by omega)]; exact hf i a (by omega)⟩
    | succ m ih =>
      intro k hk
      have ha := hall (k + 1) (by omega)
      have hb := hall k (by omega)
      rw [sm] at ha
      refine vl_b_X11_portion_5 _ _ _ _ ⟨fun h => absurd h (by omega), fun _ => ⟨⟨by omega, by omega⟩, ?_⟩⟩
      rw [← hwd, w64_id (by omega) (by omega), w32_id (by omega) (by omega), show (k : Int) + 1 = ((k + 1 : Nat) : Int) by omega]
      exact ih (k + 1) (by omega)
  exact vm_b_X11_portion _ _ (l1 10 0 rfl)
set_option maxHeartbeats 4000000 in
theorem sp_portion_c {Ln : Int} {d : Nat} (σ : AS) (s : Int) (h0 : 0 ≤ s) (hs : s ≤ 1000000000) (hw : ∀ i : Int, 0 ≤ i → i < (40 : Nat) → 0 ≤ σ 80 i) (hw2 : ∀ i : Int, 0 ≤ i → i < (40 : Nat) → σ 80 i ≤ 1000000000) :
    am_M Ln (d + 2) 133 [vI s, vR 80, vR 81] σ (am_rV fun σ' => ∃ f, σ' = zc σ 81 f ∧ ∀ i : Int, 0 ≤ i → i < (40 : Nat) → f i = if sm (σ 80) 40 = 0 then 0 else pq s (σ 80) 40 i) := by
  obtain ⟨w, hwd⟩ : ∃ w, w = σ 80 := ⟨_, rfl⟩
  rw [← hwd] at hw hw2 ⊢
  have hall : ∀ k : Nat, k ≤ 40 → 0 ≤ sm w k ∧ sm w k ≤ 1000000000 * k := by
    intro k hk
    refine ⟨sm_nn (fun i a b => hw i a (by omega)), ?_⟩
    have h2 := sm_le (f := w) (g := fun _ => 1000000000) (n := k) (fun i a b => hw2 i a (by omega))
    have h3 : sm (fun _ => 1000000000) k = 1000000000 * k := by
      clear h2 hk
      induction k with
      | zero => rfl
      | succ k ih => rw [sm, ih]; omega
    omega
  have l3 : ∀ (P : AS → Prop) (m : Nat) (k : Nat) (f : Int → Int) (x : Int), k + m = 40 → 0 ≤ x → x ≤ 1000000000 → (∀ i : Int, (k : Int) ≤ i → i < (40 : Nat) → 0 ≤ f i ∧ f i ≤ 1000000000) → (∀ g : Int → Int, (∀ i : Int, i < k → g i = f i) → (∀ i : Int, k ≤ i → i < (40 : Nat) → g i = f i + (if 0 < w i ∧ cp w i.toNat - cp w k < x then 1 else 0)) → P (zc σ 81 g)) →
      am_E Ln (d + 1) 133 91 [vU, vR 80, vR 81, vU, vU, vI x, vI (k : Int)] [] (zc σ 81 f) (am_rV P) := by
    intro P m
    induction m with
    | zero =>
      intro k f x hk hx hx2 hf hP
      exact vl_c_X11_portion_91 _ _ _ ⟨fun _ => hP f (fun _ _ => rfl) (fun i a b => by omega), fun h => absurd (by omega) h⟩
    | succ m ih =>
      intro k f x hk hx hx2 hf hP
      refine vl_c_X11_portion_91 _ _ _ ⟨fun h => absurd h (by omega), fun _ => ⟨fun h => absurd h (by omega), fun _ => ⟨fun h => ?_, fun h => ⟨⟨by omega, by omega⟩, fun h2 => ?_, fun h2 => ⟨⟨by omega, by omega⟩, ⟨by omega, by omega⟩, ?_⟩⟩⟩⟩⟩
      · refine hP f (fun _ _ => rfl) (fun i a b => ?_)
        have := cp_mono (w := w) (k := k) (n := i.toNat) (by omega)
        rw [if_neg (by omega)]
        omega
      · rw [zc_ne (by decide), ← hwd] at h2
        rw [w32_id (by omega) (by omega), show (k : Int) + 1 = ((k + 1 : Nat) : Int) by omega]
        refine ih (k + 1) f x (by omega) hx hx2 (fun i a b => hf i (by omega) b) (fun g g1 g2 => hP g (fun i a => g1 i (by omega)) (fun i a b => ?_))
        have hc : cp w (k + 1) = cp w k := by rw [cp, if_neg (by omega)]; omega
        by_cases e : i = (k : Int)
        · rw [g1 i (by omega), if_neg (fun q => by have := q.1; rw [e] at this; omega)]
          omega
        · rw [g2 i (by omega) b, hc]
      · rw [zc_ne (by decide), ← hwd] at h2
        have hfk := hf k (by omega) (by omega)
        rw [zc_eq, up_zcs, w32_id (x := x + -1) (by omega) (by omega), w32_id (x := (k : Int) + 1) (by omega) (by omega), w32_id (x := f k + 1) (by omega) (by omega), show (k : Int) + 1 = ((k + 1 : Nat) : Int) by omega]
        have hc : cp w (k + 1) = cp w k + 1 := by rw [cp, if_pos (by omega)]
        refine ih (k + 1) _ (x + -1) (by omega) (by omega) (by omega) (fun i a b => by rw [fu_ne (by omega)]; exact hf i (by omega) b) (fun g g1 g2 => hP g (fun i a => by rw [g1 i (by omega), fu_ne (by omega)]) (fun i a b => ?_))
        by_cases e : i = (k : Int)
        · rw [g1 i (by omega), e, fu_eq, if_pos ⟨by omega, by rw [show ((k : Int)).toNat = k by omega]; omega⟩]
        · rw [g2 i (by omega) b, fu_ne e, hc]
          congr 1
          by_cases q : 0 < w i ∧ cp w i.toNat - cp w k < x
          · rw [if_pos q, if_pos (by omega)]
          · rw [if_neg q, if_neg (by omega)]
  have l2 : ∀ (m : Nat) (k : Nat) (f : Int → Int), k + m = 40 → 0 < sm w 40 → (∀ i : Int, 0 ≤ i → i < k → f i = s * w i / sm w 40) →
      am_E Ln (d + 1) 133 44 [vI s, vR 80, vR 81, vL (sm w 40), vU, vI (s - sm (fun j => s * w j / sm w 40) k), vI (k : Int)] [] (zc σ 81 f) (am_rV fun σ' => ∃ f, σ' = zc σ 81 f ∧ ∀ i : Int, 0 ≤ i → i < (40 : Nat) → f i = if sm w 40 = 0 then 0 else pq s w 40 i) := by
    intro m
    induction m with
    | zero =>
      intro k f hk hp hf
      have hk : k = 40 := by omega
      subst hk
      have hsum := pq_sum h0 hp hw (k := 40) (Nat.le_refl _)
      have hE := l3 (fun σ' => ∃ f, σ' = zc σ 81 f ∧ ∀ i : Int, 0 ≤ i → i < (40 : Nat) → f i = if sm w 40 = 0 then 0 else pq s w 40 i) 40 0 f (s - sm (fun j => s * w j / sm w 40) 40) rfl (by omega) (by omega) (fun i a b => by
        have := pq_each h0 hp hw a b
        rw [hf i a b]; omega) (fun g g1 g2 => ⟨g, rfl, fun i a b => by
          rw [if_neg (by omega), g2 i (by omega) b, hf i a b, pq]
          show _ + (if 0 < w i ∧ cp w i.toNat - 0 < _ then _ else _) = _
          rw [Int.sub_zero]⟩)
      exact vl_c_X11_portion_44 _ _ _ _ _ ⟨fun _ => hE, fun h => absurd (by omega) h⟩
    | succ m ih =>
      intro k f hk hp hf
      have hsum := pq_sum h0 hp hw (k := k) (by omega)
      have hsum2 := pq_sum h0 hp hw (k := k + 1) (by omega)
      have hea := pq_each h0 hp hw (i := k) (by omega) (by omega)
      have hwk := hw k (by omega) (by omega)
      have hwk2 := hw2 k (by omega) (by omega)
      have hmul : 0 ≤ s * w k ∧ s * w k ≤ 1000000000000000000 := ⟨Int.mul_nonneg h0 hwk, by
        have a1 : s * w k ≤ 1000000000 * w k := Int.mul_le_mul_of_nonneg_right hs hwk
        omega⟩
      refine vl_c_X11_portion_44 _ _ _ _ _ ⟨fun h => absurd h (by omega), fun _ => ⟨fun h => absurd h (by omega), fun _ => ⟨⟨by omega, by omega⟩, by omega, ⟨by omega, by omega⟩, ⟨by omega, by omega⟩, ?_⟩⟩⟩
      rw [am_up_eq, if_pos rfl, zc_ne (show 80 ≠ 81 by decide), ← hwd, up_zcs, w64_id (x := s * w k) (by omega) (by omega), tdiv_nn hmul.1, w64_id (by omega) (by omega), w32_id (x := s * w k / sm w 40) (by omega) (by omega), w32_id (x := (k : Int) + 1) (by omega) (by omega), show (k : Int) + 1 = ((k + 1 : Nat) : Int) by omega]
      rw [sm] at hsum2
      rw [w32_id (by omega) (by omega)]
      have e1 : s - sm (fun j => s * w j / sm w 40) k - s * w k / sm w 40 = s - sm (fun j => s * w j / sm w 40) (k + 1) := by
        rw [show sm (fun j => s * w j / sm w 40) (k + 1) = sm (fun j => s * w j / sm w 40) k + s * w k / sm w 40 from rfl]
        omega
      rw [e1]
      refine ih (k + 1) _ (by omega) hp (fun i a b => ?_)
      by_cases e : i = (k : Int)
      · rw [e, fu_eq]
      · rw [fu_ne e]; exact hf i a (by omega)
  have l1 : ∀ (m : Nat) (k : Nat), k + m = 40 → am_E Ln (d + 1) 133 5 [vI s, vR 80, vR 81, vL (sm w k), vU, vI (k : Int), vU] [] σ (am_rV fun σ' => ∃ f, σ' = zc σ 81 f ∧ ∀ i : Int, 0 ≤ i → i < (40 : Nat) → f i = if sm w 40 = 0 then 0 else pq s w 40 i) := by
    intro m
    induction m with
    | zero =>
      intro k hk
      have hk : k = 40 := by omega
      subst hk
      have ha := hall 40 (Nat.le_refl _)
      refine vl_c_X11_portion_5 _ _ _ _ ⟨fun _ => cV (sp_fill_81 σ 0) ?_, fun h => absurd (by omega) h⟩
      rintro s1 ⟨f, rfl, hf⟩
      refine ⟨fun h => ?_, fun h => ?_⟩
      · rw [lCmp_gt] at h
        have q := l2 40 0 f rfl h (fun i a b => by omega)
        rw [show sm (fun j => s * w j / sm w 40) 0 = 0 from rfl, Int.sub_zero] at q
        exact q
      · rw [lCmp_gt] at h
        exact ⟨f, rfl, fun i a b => by rw [if_pos (by omega)]; exact hf i a (by omega)⟩
    | succ m ih =>
      intro k hk
      have ha := hall (k + 1) (by omega)
      have hb := hall k (by omega)
      rw [sm] at ha
      refine vl_c_X11_portion_5 _ _ _ _ ⟨fun h => absurd h (by omega), fun _ => ⟨⟨by omega, by omega⟩, ?_⟩⟩
      rw [← hwd, w64_id (by omega) (by omega), w32_id (by omega) (by omega), show (k : Int) + 1 = ((k + 1 : Nat) : Int) by omega]
      exact ih (k + 1) (by omega)
  exact vm_c_X11_portion _ _ (l1 40 0 rfl)
