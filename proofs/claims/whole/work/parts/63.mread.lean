/-! the model reads its rows -/
def mdr (σ : AS) (p i : Int) : MP := rl (σ 113 p - i) (fun j => (σ 114 (1400 * p + (i + j)), σ 115 (1400 * p + (i + j))))
theorem mdr_0 {σ : AS} {p : Int} : mdr σ p 0 = mp σ p := by
  unfold mdr mp
  rw [show σ 113 p - 0 = σ 113 p by omega]
  exact rl_congr fun j _ _ => by rw [Int.zero_add]
theorem mdr_cons {σ : AS} {p i : Int} (h : i < σ 113 p) : mdr σ p i = (σ 114 (1400 * p + i), σ 115 (1400 * p + i)) :: mdr σ p (i + 1) := by
  unfold mdr
  rw [rl_cons _ (by omega), Int.add_zero, show σ 113 p - i - 1 = σ 113 p - (i + 1) by omega]
  congr 1
  exact rl_congr fun j _ _ => by rw [show i + (j + 1) = i + 1 + j by omega]
theorem mdr_nil {σ : AS} {p i : Int} (h : σ 113 p ≤ i) : mdr σ p i = [] := rl_neg _ (by omega)
theorem cp_bd {w : Int → Int} : ∀ (n : Nat), 0 ≤ cp w n ∧ cp w n ≤ n
  | 0 => ⟨Int.le_refl 0, Int.le_refl 0⟩
  | n + 1 => by
    have := cp_bd (w := w) n
    rw [cp]
    split <;> omega
/-- the model's rows, while parts are taken -/
def MT (σ : AS) : Prop := ∀ p : Int, 0 ≤ p → p < 10 → (0 ≤ σ 113 p ∧ σ 113 p ≤ 1390) ∧ (∀ q ∈ mp σ p, (0 ≤ q.1 ∧ q.1 < 10) ∧ 0 ≤ q.2) ∧ psum (mp σ p) ≤ 1000000000
theorem lp_allOf {Ln : Int} {d : Nat} {p : Int} {σ : AS} (hp : 0 ≤ p ∧ p < 10) (hr : 0 ≤ σ 113 p ∧ σ 113 p ≤ 1390) : ∀ (m : Nat) (i acc : Int), (∀ q ∈ mdr σ p i, 0 ≤ q.2) → 0 ≤ acc → acc + psum (mdr σ p i) ≤ 1000000000 → 0 ≤ i → (σ 113 p - i).toNat = m →
    am_E Ln d 180 8 [vR 82, vI p, vI acc, vI (1400 * p + i)] [] σ (am_rI fun r σ' => r = acc + psum (mdr σ p i) ∧ σ' = σ) := by
  intro m
  induction m with
  | zero =>
    intro i acc hnn h0 hb hi hm
    refine vl_X12_allOf_8 _ _ _ _ ⟨hp, fun _ => ⟨?_, rfl⟩, fun h => absurd ?_ h⟩
    · rw [mdr_nil (by omega), psum_nil, Int.add_zero]
    · rw [w32_id (x := 1400 * p) (by omega) (by omega), w32_id (by omega) (by omega)]; omega
  | succ m ih =>
    intro i acc hnn h0 hb hi hm
    have hlt : i < σ 113 p := by omega
    rw [mdr_cons hlt] at hnn hb ⊢
    rw [psum_c] at hb ⊢
    have q0 : 0 ≤ σ 115 (1400 * p + i) := hnn _ List.mem_cons_self
    have q1 := psum_nn (l := mdr σ p (i + 1)) (fun x hx => hnn x (List.mem_cons_of_mem _ hx))
    refine vl_X12_allOf_8 _ _ _ _ ⟨hp, fun h => absurd h ?_, fun _ => ⟨⟨by omega, by omega⟩, ?_⟩⟩
    · rw [w32_id (x := 1400 * p) (by omega) (by omega), w32_id (by omega) (by omega)]; omega
    · rw [w32_id (x := acc + σ 115 (1400 * p + i)) (by omega) (by omega), w32_id (x := 1400 * p + i + 1) (by omega) (by omega), show 1400 * p + i + 1 = 1400 * p + (i + 1) by omega]
      refine am_EI (ih (i + 1) (acc + σ 115 (1400 * p + i)) (fun x hx => hnn x (List.mem_cons_of_mem _ hx)) (by omega) (by omega) (by omega) (by omega)) ?_
      rintro r s ⟨rfl, rfl⟩
      exact ⟨by omega, rfl⟩
theorem sp_allOf {Ln : Int} {d : Nat} {p : Int} {σ : AS} (hp : 0 ≤ p ∧ p < 10) (hT : MT σ) : am_M Ln (d + 1) 180 [vR 82, vI p] σ (am_rI fun r σ' => r = psum (mp σ p) ∧ σ' = σ) := by
  obtain ⟨h1, h2, h3⟩ := hT p hp.1 hp.2
  refine vm_X12_allOf _ _ ?_
  have e : w32 (1400 * p) = 1400 * p + 0 := by rw [w32_id (by omega) (by omega)]; omega
  rw [e]
  refine am_EI (lp_allOf hp h1 _ 0 0 (by rw [mdr_0]; exact fun q hq => (h2 q hq).2) (by omega) (by rw [mdr_0]; omega) (by omega) rfl) ?_
  rintro r s ⟨rfl, rfl⟩
  rw [mdr_0]
  exact ⟨by omega, rfl⟩
theorem lp_of {Ln : Int} {d : Nat} {p o : Int} {σ : AS} (hp : 0 ≤ p ∧ p < 10) (hr : 0 ≤ σ 113 p ∧ σ 113 p ≤ 1390) : ∀ (m : Nat) (i acc : Int), (∀ q ∈ mdr σ p i, 0 ≤ q.2) → 0 ≤ acc → acc + psum (mdr σ p i) ≤ 1000000000 → 0 ≤ i → (σ 113 p - i).toNat = m →
    am_E Ln d 181 9 [vR 82, vI p, vI o, vI acc, vI (1400 * p + i)] [] σ (am_rI fun r σ' => r = acc + pof o (mdr σ p i) ∧ σ' = σ) := by
  intro m
  induction m with
  | zero =>
    intro i acc hnn h0 hb hi hm
    refine vl_X12_of_9 _ _ _ _ _ ⟨hp, fun _ => ⟨?_, rfl⟩, fun h => absurd ?_ h⟩
    · rw [mdr_nil (by omega), pof_nil, Int.add_zero]
    · rw [w32_id (x := 1400 * p) (by omega) (by omega), w32_id (by omega) (by omega)]; omega
  | succ m ih =>
    intro i acc hnn h0 hb hi hm
    have hlt : i < σ 113 p := by omega
    rw [mdr_cons hlt] at hnn hb ⊢
    rw [psum_c] at hb
    rw [pof_c]
    have q0 : 0 ≤ σ 115 (1400 * p + i) := hnn _ List.mem_cons_self
    have q1 := psum_nn (l := mdr σ p (i + 1)) (fun x hx => hnn x (List.mem_cons_of_mem _ hx))
    refine vl_X12_of_9 _ _ _ _ _ ⟨hp, fun h => absurd h ?_, fun _ => ⟨⟨by omega, by omega⟩, fun h => ⟨⟨by omega, by omega⟩, ?_⟩, fun h => ?_⟩⟩
    · rw [w32_id (x := 1400 * p) (by omega) (by omega), w32_id (by omega) (by omega)]; omega
    · rw [w32_id (x := acc + σ 115 (1400 * p + i)) (by omega) (by omega), w32_id (x := 1400 * p + i + 1) (by omega) (by omega), show 1400 * p + i + 1 = 1400 * p + (i + 1) by omega]
      refine am_EI (ih (i + 1) (acc + σ 115 (1400 * p + i)) (fun x hx => hnn x (List.mem_cons_of_mem _ hx)) (by omega) (by omega) (by omega) (by omega)) ?_
      rintro r s ⟨rfl, rfl⟩
      rw [if_pos h]
      exact ⟨by omega, rfl⟩
    · rw [w32_id (x := acc + 0) (by omega) (by omega), w32_id (x := 1400 * p + i + 1) (by omega) (by omega), show 1400 * p + i + 1 = 1400 * p + (i + 1) by omega]
      refine am_EI (ih (i + 1) (acc + 0) (fun x hx => hnn x (List.mem_cons_of_mem _ hx)) (by omega) (by omega) (by omega) (by omega)) ?_
      rintro r s ⟨rfl, rfl⟩
      rw [if_neg h]
      exact ⟨by omega, rfl⟩
theorem sp_of {Ln : Int} {d : Nat} {p o : Int} {σ : AS} (hp : 0 ≤ p ∧ p < 10) (hT : MT σ) : am_M Ln (d + 1) 181 [vR 82, vI p, vI o] σ (am_rI fun r σ' => r = pof o (mp σ p) ∧ σ' = σ) := by
  obtain ⟨h1, h2, h3⟩ := hT p hp.1 hp.2
  refine vm_X12_of _ _ _ ?_
  have e : w32 (1400 * p) = 1400 * p + 0 := by rw [w32_id (by omega) (by omega)]; omega
  rw [e]
  refine am_EI (lp_of hp h1 _ 0 0 (by rw [mdr_0]; exact fun q hq => (h2 q hq).2) (by omega) (by rw [mdr_0]; omega) (by omega) rfl) ?_
  rintro r s ⟨rfl, rfl⟩
  rw [mdr_0]
  exact ⟨by omega, rfl⟩
theorem lp_some {Ln : Int} {d : Nat} {p : Int} {σ : AS} {n : Nat} (hp : 0 ≤ p ∧ p < 10) (hT : MT σ) (hn : σ 82 3 = n) (hn2 : n ≤ 10) : ∀ (m k : Nat), k + m = n →
    am_E Ln (d + 1) 182 4 [vR 82, vI p, vI (cp (fun o => pof o (mp σ p)) k), vI (k : Int)] [] σ (am_rI fun r σ' => r = cp (fun o => pof o (mp σ p)) n ∧ σ' = σ) := by
  intro m
  induction m with
  | zero =>
    intro k hk
    obtain rfl : k = n := by omega
    exact vl_X12_some_4 _ _ _ _ ⟨fun _ => ⟨rfl, rfl⟩, fun h => absurd (by omega) h⟩
  | succ m ih =>
    intro k hk
    have hc := cp_bd (w := fun o => pof o (mp σ p)) k
    have key := ih (k + 1) (by omega)
    rw [cp, show ((k + 1 : Nat) : Int) = (k : Int) + 1 by omega] at key
    refine vl_X12_some_4 _ _ _ _ ⟨fun h => absurd h (by omega), fun _ => cI (sp_of hp hT) ?_⟩
    rintro r s ⟨rfl, rfl⟩
    refine ⟨fun h => ?_, fun h => ?_⟩
    · rw [if_neg (by omega)] at key
      rw [w32_id (x := cp (fun o => pof o (mp s p)) k + 0) (by omega) (by omega), w32_id (by omega) (by omega)]
      exact key
    · rw [if_pos (by omega)] at key
      rw [w32_id (x := cp (fun o => pof o (mp s p)) k + 1) (by omega) (by omega), w32_id (by omega) (by omega)]
      exact key
theorem sp_some {Ln : Int} {d : Nat} {p : Int} {σ : AS} {n : Nat} (hp : 0 ≤ p ∧ p < 10) (hT : MT σ) (hn : σ 82 3 = n) (hn2 : n ≤ 10) :
    am_M Ln (d + 2) 182 [vR 82, vI p] σ (am_rI fun r σ' => r = cp (fun o => pof o (mp σ p)) n ∧ σ' = σ) := vm_X12_some _ _ (lp_some hp hT hn hn2 n 0 (by omega))
