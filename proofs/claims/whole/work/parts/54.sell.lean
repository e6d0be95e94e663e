/-! selling and making good -/
def sfS (σ : AS) (b : Int) (k : Int) : Int := sm (fun x => σ 46 (b + x)) k.toNat
theorem lp_shareOf {Ln : Int} {d : Nat} {σ : AS} {a o : Int} (ha : 0 ≤ a ∧ a < 10) (ho : o = -1 ∨ (0 ≤ o ∧ o < 10)) (hb : ∀ c : Int, 0 ≤ c → c < 100 → 0 ≤ σ 46 c ∧ σ 46 c ≤ 100000000) : ∀ (m k : Nat), k + m = 10 →
    am_E Ln d 86 5 [vR 41, vI a, vI o, vI (sm (fun x => if o = -1 ∨ o = x then σ 46 (10 * a + x) else 0) k), vI (k : Int)] [] σ (am_rI fun r σ' => r = sm (fun x => if o = -1 ∨ o = x then σ 46 (10 * a + x) else 0) 10 ∧ σ' = σ) := by
  have hbd : ∀ k : Nat, k ≤ 10 → 0 ≤ sm (fun x => if o = -1 ∨ o = x then σ 46 (10 * a + x) else 0) k ∧ sm (fun x => if o = -1 ∨ o = x then σ 46 (10 * a + x) else 0) k ≤ 100000000 * k := by
    intro k
    induction k with
    | zero => intro _; exact ⟨Int.le_refl 0, Int.le_refl 0⟩
    | succ k ih =>
      intro hk
      have := ih (by omega)
      have h2 := hb (10 * a + k) (by omega) (by omega)
      rw [sm]
      split <;> omega
  intro m
  induction m with
  | zero =>
    intro k hk
    obtain rfl : k = 10 := by omega
    exact vl_X9_shareOf_5 _ _ _ _ _ ⟨fun _ => ⟨rfl, rfl⟩, fun h => absurd (by omega) h⟩
  | succ m ih =>
    intro k hk
    have ei : w32 (w32 (a * 10) + k) = 10 * a + k := by rw [w32_id (x := a * 10) (by omega) (by omega), w32_id (by omega) (by omega)]; omega
    have h1 := hbd k (by omega)
    have h2 := hb (10 * a + k) (by omega) (by omega)
    have key := ih (k + 1) (by omega)
    rw [sm, show ((k + 1 : Nat) : Int) = (k : Int) + 1 by omega] at key
    refine vl_X9_shareOf_5 _ _ _ _ _ ⟨fun h => absurd h (by omega), fun _ => ⟨fun h3 => ⟨by rw [ei]; omega, ?_⟩, fun h3 => ⟨fun h4 => ⟨by rw [ei]; omega, ?_⟩, fun h4 => ?_⟩⟩⟩
    · rw [if_pos (Or.inl h3)] at key
      rw [ei, w32_id (by omega) (by omega), w32_id (by omega) (by omega)]
      exact key
    · rw [if_pos (Or.inr h4)] at key
      rw [ei, w32_id (by omega) (by omega), w32_id (by omega) (by omega)]
      exact key
    · rw [if_neg (by omega), Int.add_zero] at key
      rw [w32_id (by omega) (by omega)]
      exact key
theorem sp_shareOf {Ln : Int} {d : Nat} {σ : AS} {a o : Int} (ha : 0 ≤ a ∧ a < 10) (ho : o = -1 ∨ (0 ≤ o ∧ o < 10)) (hb : ∀ c : Int, 0 ≤ c → c < 100 → 0 ≤ σ 46 c ∧ σ 46 c ≤ 100000000) :
    am_M Ln (d + 1) 86 [vR 41, vI a, vI o] σ (am_rI fun r σ' => r = sm (fun x => if o = -1 ∨ o = x then σ 46 (10 * a + x) else 0) 10 ∧ σ' = σ) := vm_X9_shareOf _ _ _ (lp_shareOf ha ho hb 10 0 (by omega))
/-- receiving from ten persons, one after another -/
def xrec (σ0 : AS) (p : Int) (g : Int → Int) (k : Int) (σ : AS) : Prop := XW σ ∧ Fr [42, 43, 44, 45, 50] [(41, 3)] σ0 σ ∧ (∀ p' : Int, 0 ≤ p' → p' < 10 → xp σ p' = if p' = p then layAll (xp σ0 p) (rl k (fun x => (x, g x))) else xp σ0 p') ∧ σ 41 3 ≤ σ0 41 3 + k ∧
  ∀ o : Int, 0 ≤ o → o < 10 → σ 50 o = if o < k then g o else 0
theorem lp_gain {Ln : Int} {d : Nat} {σ0 : AS} {p : Int} {g : Int → Int} (hp : 0 ≤ p ∧ p < 10) (hz : σ0 41 3 ≤ 1000) (hg : ∀ o : Int, 0 ≤ o → o < 10 → σ0 68 o = g o ∧ 0 ≤ g o ∧ g o ≤ 1000000) (hps : 0 ≤ psum (xp σ0 p) ∧ psum (xp σ0 p) ≤ 100000000) : ∀ (m k : Nat) (σ : AS), k + m = 10 → xrec σ0 p g k σ →
    am_E Ln (d + 2) 43 158 [vR 40, vI p, vU, vU, vU, vU, vU, vI (k : Int)] [] σ (am_rV (xrec σ0 p g 10)) := by
  intro m
  induction m with
  | zero =>
    intro k σ hk hx
    obtain rfl : k = 10 := by omega
    exact vl_X6_sell_158 _ _ _ ⟨fun _ => hx, fun h => absurd (by omega) h⟩
  | succ m ih =>
    intro k σ hk hx
    obtain ⟨x1, x2, x3, x4, x5⟩ := hx
    have e68 : σ 68 = σ0 68 := x2.cell 68 (by decide)
    have hgk := hg k (by omega) (by omega)
    have hs : ∀ n : Nat, n ≤ 10 → 0 ≤ psum (rl (n : Int) (fun x => (x, g x))) ∧ psum (rl (n : Int) (fun x => (x, g x))) ≤ 1000000 * n := by
      intro n
      induction n with
      | zero => intro _; exact ⟨Int.le_refl 0, Int.le_refl 0⟩
      | succ n ihn =>
        intro hn
        have h1 := ihn (by omega)
        have h2 := (hg n (by omega) (by omega)).2
        rw [show ((n + 1 : Nat) : Int) = n + 1 by omega, rl_succ _ (by omega), psum_app]
        show 0 ≤ _ + (g n + 0) ∧ _ + (g n + 0) ≤ _
        omega
    have hsk := hs k (by omega)
    have exq : psum (xp σ p) = psum (xp σ0 p) + psum (rl (k : Int) (fun x => (x, g x))) := by
      rw [x3 _ hp.1 hp.2, if_pos rfl]
      refine layAll_psum fun x hx => ?_
      obtain ⟨j, c0, c1, c2⟩ := rl_mem.mp hx
      rw [← c2]
      exact (hg j c0 (by omega)).2.1
    refine vl_X6_sell_158 _ _ _ ⟨fun h => absurd h (by omega), fun _ => ⟨⟨by omega, by omega⟩, ?_⟩⟩
    rw [e68, hgk.1]
    refine cV (sp_receive x1 hp ⟨by omega, by omega⟩ (by omega) (by rw [exq]; omega) ⟨hgk.2.1, by omega⟩ (by rw [x5 k (by omega) (by omega), if_neg (by omega)]; omega)) ?_
    rintro s ⟨s1, ⟨y1, y2, y3, y4, y5⟩, rfl⟩
    rw [w32_id (by omega) (by omega), show (k : Int) + 1 = ((k + 1 : Nat) : Int) by omega]
    refine ih (k + 1) _ (by omega) ?_
    have e1 : ∀ c : Nat, c ≠ 50 → am_up s1 50 k (σ 50 k + g k) c = s1 c := fun c hc => am_up_ne hc
    have exp' : ∀ p', xp (am_up s1 50 k (σ 50 k + g k)) p' = xp s1 p' := fun p' => rfl
    refine ⟨y1, Fr.up ((x2.mo (by decide) (by decide)).tr (y2.mo (by decide) (by decide))) (Or.inl (by decide)), fun p' a b => ?_, ?_, fun o a b => ?_⟩
    · rw [exp', y3 p' a b, show ((k + 1 : Nat) : Int) = k + 1 by omega, rl_succ _ (by omega), layAll_app]
      by_cases e : p' = p
      · rw [if_pos e, if_pos e, x3 _ hp.1 hp.2, if_pos rfl]; rfl
      · rw [if_neg e, if_neg e, x3 p' a b, if_neg e]
    · rw [e1 41 (by decide)]; omega
    · have e50 : s1 50 = σ 50 := y2.cell 50 (by decide)
      rw [am_up_eq, e50, x5 k (by omega) (by omega), if_neg (by omega : ¬ ((k : Int) < k))]
      by_cases e : o = k
      · rw [if_pos e, if_pos (by omega), e, Int.zero_add]
      · rw [if_neg e, x5 o a b]
        by_cases e2 : o < (k : Int)
        · rw [if_pos e2, if_pos (by omega)]
        · rw [if_neg e2, if_neg (by omega)]
/-- the shares become weights -/
def clK (f : Int → Int) (b k : Int) : Int → Int := fun c => if b ≤ c ∧ c < b + k then 0 else f c
def wtK (f w0 : Int → Int) (b k : Int) : Int → Int := fun o => if 0 ≤ o ∧ o < k then f (b + o) else w0 o
theorem lp_weights {Ln : Int} {d : Nat} {σ : AS} {p a s h all : Int} {T : AS → Prop} (ha : 0 ≤ a ∧ a < 10)
    (hT : am_E Ln d 43 25 [vR 40, vI p, vI a, vI s, vI h, vI all, vI 10, vU] [] (zc (zc σ 46 (clK (σ 46) (10 * a) 10)) 67 (wtK (σ 46) (σ 67) (10 * a) 10)) (am_rV T)) : ∀ (m k : Nat), k + m = 10 →
    am_E Ln d 43 25 [vR 40, vI p, vI a, vI s, vI h, vI all, vI (k : Int), vU] [] (zc (zc σ 46 (clK (σ 46) (10 * a) k)) 67 (wtK (σ 46) (σ 67) (10 * a) k)) (am_rV T) := by
  intro m
  induction m with
  | zero =>
    intro k hk
    obtain rfl : k = 10 := by omega
    exact hT
  | succ m ih =>
    intro k hk
    have ei : w32 (w32 (a * 10) + k) = 10 * a + k := by rw [w32_id (x := a * 10) (by omega) (by omega), w32_id (by omega) (by omega)]; omega
    refine vl_X6_sell_25 _ _ _ _ _ _ _ ⟨fun h => absurd h (by omega), fun _ => ⟨by rw [ei]; omega, ⟨by omega, by omega⟩, by rw [ei]; omega, ?_⟩⟩
    rw [ei, w32_id (by omega) (by omega), up_zcs, zc_ne (c' := 46) (by decide), zc_eq, zc_comm (by decide), up_zcs, zc_comm (by decide)]
    have key := ih (k + 1) (by omega)
    have e1 : fu (clK (σ 46) (10 * a) k) (10 * a + k) 0 = clK (σ 46) (10 * a) ((k + 1 : Nat) : Int) := by
      funext c
      unfold fu clK
      by_cases e : c = 10 * a + k
      · rw [if_pos e, if_pos (by omega)]
      · rw [if_neg e]
        by_cases e2 : 10 * a ≤ c ∧ c < 10 * a + k
        · rw [if_pos e2, if_pos (by omega)]
        · rw [if_neg e2, if_neg (by omega)]
    have e2 : fu (wtK (σ 46) (σ 67) (10 * a) k) k (clK (σ 46) (10 * a) k (10 * a + k)) = wtK (σ 46) (σ 67) (10 * a) ((k + 1 : Nat) : Int) := by
      funext c
      unfold fu wtK clK
      rw [if_neg (by omega : ¬ (10 * a ≤ 10 * a + (k : Int) ∧ 10 * a + (k : Int) < 10 * a + k))]
      by_cases e : c = k
      · rw [if_pos e, if_pos (by omega), e]
      · rw [if_neg e]
        by_cases e2 : 0 ≤ c ∧ c < k
        · rw [if_pos e2, if_pos (by omega)]
        · rw [if_neg e2, if_neg (by omega)]
    rw [e1, e2, show (k : Int) + 1 = ((k + 1 : Nat) : Int) by omega]
    exact key
