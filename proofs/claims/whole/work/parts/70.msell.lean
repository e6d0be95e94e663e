/-! spent, bought and sold, in the model -/
theorem addR_0 {f : Int → Int} {b : Int} : addR f b (fun _ => 0) = f := by
  funext c
  unfold addR
  split
  · exact Int.add_zero _
  · rfl
theorem addR_step {f g : Int → Int} {b o s : Int} (h : 0 ≤ o ∧ o < 10) : fu (addR f b g) (b + o) (addR f b g (b + o) + s) = addR f b (fun x => g x + (if o = x then s else 0)) := by
  funext c
  unfold fu addR
  dsimp only
  by_cases e : c = b + o
  · rw [if_pos e, if_pos (by omega), if_pos (by omega), show b + o - b = o by omega, if_pos (by omega : o = c - b), show c - b = o by omega, e]
    omega
  · rw [if_neg e]
    by_cases e2 : b ≤ c ∧ c < b + 10
    · rw [if_pos e2, if_pos e2, if_neg (by omega : ¬ o = c - b)]; omega
    · rw [if_neg e2, if_neg e2]
theorem addR_congr {f g g' : Int → Int} {b : Int} (h : ∀ x : Int, 0 ≤ x → x < 10 → g x = g' x) : addR f b g = addR f b g' := by
  funext c
  unfold addR
  split
  · rw [h _ (by omega) (by omega)]
  · rfl
def mtp (σ : AS) (j : Int) : MP := rl j (fun j => (σ 118 j, σ 119 j))
theorem mtp_succ {σ : AS} {j : Int} (h : 0 ≤ j) : mtp σ (j + 1) = mtp σ j ++ [(σ 118 j, σ 119 j)] := rl_succ _ h
theorem pof_one {x o s : Int} : pof x [(o, s)] = if o = x then s else 0 := by rw [pof_c, pof_nil, Int.add_zero]
theorem mtp_bd {σ : AS} {j n : Int} (h0 : 0 ≤ j) (h1 : j < n) (hnn : ∀ q ∈ mtp σ n, 0 ≤ q.2) (x : Int) : 0 ≤ σ 119 j ∧ 0 ≤ pof x (mtp σ j) ∧ pof x (mtp σ j) + σ 119 j ≤ psum (mtp σ n) := by
  have e : mtp σ n = mtp σ j ++ (σ 118 j, σ 119 j) :: rl (n - j - 1) (fun i => (σ 118 (j + 1 + i), σ 119 (j + 1 + i))) := rl_at _ h0 h1
  rw [e] at hnn ⊢
  rw [psum_app, psum_c]
  have h2 : 0 ≤ σ 119 j := hnn (σ 118 j, σ 119 j) (List.mem_append.mpr (Or.inr List.mem_cons_self))
  have h3 := pof_nn (o := x) (l := mtp σ j) (fun q hq => hnn q (List.mem_append.mpr (Or.inl hq)))
  have h4 := psum_nn (l := rl (n - j - 1) (fun i => (σ 118 (j + 1 + i), σ 119 (j + 1 + i)))) (fun q hq => hnn q (List.mem_append.mpr (Or.inr (List.mem_cons_of_mem _ hq))))
  omega
theorem lp_mspends {Ln : Int} {d : Nat} {C σ : AS} {i n : Int} (hB : BK C) (hl : lv C i) (hf : Fr wkX wkF C σ) (hn : n = σ 82 54) (hn0 : 0 ≤ n ∧ n ≤ 1390) (hel : ∀ j : Int, 0 ≤ j → j < n → 0 ≤ σ 118 j ∧ σ 118 j < 10) (hnn : ∀ q ∈ mtp σ n, 0 ≤ q.2) (hps : psum (mtp σ n) ≤ 1000000)
    (hb : ∀ c : Int, 0 ≤ c → c < 100 → 0 ≤ σ 117 c ∧ σ 117 c ≤ 100000000) : ∀ (m : Nat) (j : Int), 0 ≤ j → j ≤ n → (n - j).toNat = m →
    am_E Ln d 197 2 [vR 82, vI i, vI j] [] (zc σ 117 (addR (σ 117) (10 * C 9 i) (fun x => if x = C 5 (C 9 i) then 0 else pof x (mtp σ j)))) (am_rV fun σ' => σ' = zc σ 117 (addR (σ 117) (10 * C 9 i) (fun x => if x = C 5 (C 9 i) then 0 else pof x (mtp σ n)))) := by
  obtain ⟨l1, l2, l3, l4, l5, l6, l7⟩ := hl
  have e87 : ∀ f, zc σ 117 f 87 = C 9 := fun f => by rw [zc_ne (by decide), hf.cell 87 (by decide), hB.1.2.2.2.1]
  have e84 : ∀ f, zc σ 117 f 84 = C 5 := fun f => by rw [zc_ne (by decide), hf.cell 84 (by decide), hB.1.1]
  have e54 : ∀ f, zc σ 117 f 82 54 = n := fun f => by rw [zc_ne (by decide), hn]
  have e118 : ∀ f, zc σ 117 f 118 = σ 118 := fun f => zc_ne (by decide)
  have e119 : ∀ f, zc σ 117 f 119 = σ 119 := fun f => zc_ne (by decide)
  intro m
  induction m with
  | zero =>
    intro j h0 h1 hm
    obtain rfl : j = n := by omega
    exact vl_X12_spends_2 _ _ _ ⟨fun _ => rfl, fun h => absurd (by rw [e54]; omega) h⟩
  | succ m ih =>
    intro j h0 h1 hm
    have hj := hel j h0 (by omega)
    have key := ih (j + 1) (by omega) (by omega) (by omega)
    rw [mtp_succ h0] at key
    refine vl_X12_spends_2 _ _ _ ⟨fun h => absurd h (by rw [e54]; omega), fun _ => ⟨⟨h0, by omega⟩, l1, ?_⟩⟩
    rw [e87, e84, e118, e119, w32_id (x := j + 1) (by omega) (by omega), w32_id (x := 10 * C 9 i) (by omega) (by omega), w32_id (x := 10 * C 9 i + σ 118 j) (by omega) (by omega)]
    refine ⟨l3, fun h => ?_, fun h => ⟨l1, ⟨h0, by omega⟩, ⟨by omega, by omega⟩, ⟨h0, by omega⟩, ⟨by omega, by omega⟩, ?_⟩⟩
    · rw [addR_congr (g' := fun x => if x = C 5 (C 9 i) then 0 else pof x (mtp σ j)) (fun x a b => by
        split
        · rfl
        · rename_i hx
          rw [pof_app, pof_one, if_neg (by omega), Int.add_zero])] at key
      exact key
    · have hbd := mtp_bd h0 (by omega : j < n) hnn (σ 118 j)
      have hba := hb (10 * C 9 i + σ 118 j) (by omega) (by omega)
      rw [up_zcs, zc_eq]
      have e2 : addR (σ 117) (10 * C 9 i) (fun x => if x = C 5 (C 9 i) then 0 else pof x (mtp σ j)) (10 * C 9 i + σ 118 j) = σ 117 (10 * C 9 i + σ 118 j) + pof (σ 118 j) (mtp σ j) := by
        unfold addR
        rw [if_pos (by omega), show 10 * C 9 i + σ 118 j - 10 * C 9 i = σ 118 j by omega]
        dsimp only
        rw [if_neg h]
      rw [w32_id (x := addR (σ 117) (10 * C 9 i) (fun x => if x = C 5 (C 9 i) then 0 else pof x (mtp σ j)) (10 * C 9 i + σ 118 j) + σ 119 j) (by rw [e2]; omega) (by rw [e2]; omega), addR_step hj]
      rw [addR_congr (g' := fun x => (if x = C 5 (C 9 i) then 0 else pof x (mtp σ j)) + (if σ 118 j = x then σ 119 j else 0)) (fun x a b => by
        by_cases hx : x = C 5 (C 9 i)
        · rw [if_pos hx, if_pos hx, if_neg (by omega)]; rfl
        · rw [if_neg hx, if_neg hx, pof_app, pof_one])] at key
      exact key
theorem sp_mspends {Ln : Int} {d : Nat} {C σ : AS} {i : Int} (hB : BK C) (hl : lv C i) (hf : Fr wkX wkF C σ) (hn0 : 0 ≤ σ 82 54 ∧ σ 82 54 ≤ 1390) (hel : ∀ j : Int, 0 ≤ j → j < σ 82 54 → 0 ≤ σ 118 j ∧ σ 118 j < 10) (hnn : ∀ q ∈ mt σ, 0 ≤ q.2) (hps : psum (mt σ) ≤ 1000000)
    (hb : ∀ c : Int, 0 ≤ c → c < 100 → 0 ≤ σ 117 c ∧ σ 117 c ≤ 100000000) :
    am_M Ln (d + 1) 197 [vR 82, vI i] σ (am_rV fun σ' => σ' = zc σ 117 (addR (σ 117) (10 * C 9 i) (fun x => if x = C 5 (C 9 i) then 0 else pof x (mt σ)))) := by
  have h := lp_mspends (Ln := Ln) (d := d) hB hl hf rfl hn0 hel hnn hps hb _ 0 (by omega) (by omega) rfl
  have e : (fun x => if x = C 5 (C 9 i) then 0 else pof x (mtp σ 0)) = fun _ : Int => (0 : Int) := by
    funext x
    show (if x = C 5 (C 9 i) then 0 else pof x []) = 0
    rw [pof_nil]
    split <;> rfl
  rw [e, addR_0, zc_self] at h
  exact vm_X12_spends _ _ h
theorem lp_mbuys {Ln : Int} {d : Nat} {C σ : AS} {i n : Int} (hB : BK C) (hl : lv C i) (hk : 0 ≤ C 10 i ∧ C 10 i < 10) (hf : Fr wkX wkF C σ) (hn : n = σ 82 54) (hn0 : 0 ≤ n ∧ n ≤ 1390) (hel : ∀ j : Int, 0 ≤ j → j < n → 0 ≤ σ 118 j ∧ σ 118 j < 10) (hnn : ∀ q ∈ mtp σ n, 0 ≤ q.2) (hps : psum (mtp σ n) ≤ 1000000)
    (hb : ∀ c : Int, 0 ≤ c → c < 100 → 0 ≤ σ 116 c ∧ σ 116 c ≤ 100000000) : ∀ (m : Nat) (j : Int), 0 ≤ j → j ≤ n → (n - j).toNat = m →
    am_E Ln d 198 2 [vR 82, vI i, vI j] [] (zc σ 116 (addR (σ 116) (10 * C 10 i) (fun x => pof x (mtp σ j)))) (am_rV fun σ' => σ' = zc σ 116 (addR (σ 116) (10 * C 10 i) (fun x => pof x (mtp σ n)))) := by
  obtain ⟨l1, l2, l3, l4, l5, l6, l7⟩ := hl
  have e88 : ∀ f, zc σ 116 f 88 = C 10 := fun f => by rw [zc_ne (by decide), hf.cell 88 (by decide), hB.1.2.2.2.2.1]
  have e54 : ∀ f, zc σ 116 f 82 54 = n := fun f => by rw [zc_ne (by decide), hn]
  have e118 : ∀ f, zc σ 116 f 118 = σ 118 := fun f => zc_ne (by decide)
  have e119 : ∀ f, zc σ 116 f 119 = σ 119 := fun f => zc_ne (by decide)
  intro m
  induction m with
  | zero =>
    intro j h0 h1 hm
    obtain rfl : j = n := by omega
    exact vl_X12_buys_2 _ _ _ ⟨fun _ => rfl, fun h => absurd (by rw [e54]; omega) h⟩
  | succ m ih =>
    intro j h0 h1 hm
    have hj := hel j h0 (by omega)
    have key := ih (j + 1) (by omega) (by omega) (by omega)
    rw [mtp_succ h0] at key
    refine vl_X12_buys_2 _ _ _ ⟨fun h => absurd h (by rw [e54]; omega), fun _ => ⟨l1, ⟨h0, by omega⟩, ?_⟩⟩
    rw [e88, e118, e119, w32_id (x := j + 1) (by omega) (by omega), w32_id (x := 10 * C 10 i) (by omega) (by omega), w32_id (x := 10 * C 10 i + σ 118 j) (by omega) (by omega)]
    refine ⟨⟨by omega, by omega⟩, ⟨h0, by omega⟩, ⟨by omega, by omega⟩, ?_⟩
    have hbd := mtp_bd h0 (by omega : j < n) hnn (σ 118 j)
    have hba := hb (10 * C 10 i + σ 118 j) (by omega) (by omega)
    rw [up_zcs, zc_eq]
    have e2 : addR (σ 116) (10 * C 10 i) (fun x => pof x (mtp σ j)) (10 * C 10 i + σ 118 j) = σ 116 (10 * C 10 i + σ 118 j) + pof (σ 118 j) (mtp σ j) := by
      unfold addR
      rw [if_pos (by omega), show 10 * C 10 i + σ 118 j - 10 * C 10 i = σ 118 j by omega]
    rw [w32_id (x := addR (σ 116) (10 * C 10 i) (fun x => pof x (mtp σ j)) (10 * C 10 i + σ 118 j) + σ 119 j) (by rw [e2]; omega) (by rw [e2]; omega), addR_step hj]
    rw [addR_congr (g' := fun x => pof x (mtp σ j) + (if σ 118 j = x then σ 119 j else 0)) (fun x a b => by rw [pof_app, pof_one])] at key
    exact key
theorem sp_mbuys {Ln : Int} {d : Nat} {C σ : AS} {i : Int} (hB : BK C) (hl : lv C i) (hk : 0 ≤ C 10 i ∧ C 10 i < 10) (hf : Fr wkX wkF C σ) (hn0 : 0 ≤ σ 82 54 ∧ σ 82 54 ≤ 1390) (hel : ∀ j : Int, 0 ≤ j → j < σ 82 54 → 0 ≤ σ 118 j ∧ σ 118 j < 10) (hnn : ∀ q ∈ mt σ, 0 ≤ q.2) (hps : psum (mt σ) ≤ 1000000)
    (hb : ∀ c : Int, 0 ≤ c → c < 100 → 0 ≤ σ 116 c ∧ σ 116 c ≤ 100000000) :
    am_M Ln (d + 1) 198 [vR 82, vI i] σ (am_rV fun σ' => σ' = zc σ 116 (addR (σ 116) (10 * C 10 i) (fun x => pof x (mt σ)))) := by
  have h := lp_mbuys (Ln := Ln) (d := d) hB hl hk hf rfl hn0 hel hnn hps hb _ 0 (by omega) (by omega) rfl
  have e : (fun x => pof x (mtp σ 0)) = fun _ : Int => (0 : Int) := by
    funext x
    exact pof_nil
  rw [e, addR_0, zc_self] at h
  exact vm_X12_buys _ _ h
/-- parts of a sum by weights, into the persons' places -/
theorem sp_partsOut {Ln : Int} {d : Nat} {σ : AS} {k s z : Int} {n : Nat} (w : Int → Int) (hn : σ 82 3 = n) (hn2 : n ≤ 10) (hk : 0 ≤ k ∧ k < 10) (hs : 0 ≤ s ∧ s ≤ 1000000) (hw : w = fun x => if x = z then 0 else σ 116 (10 * k + x)) (hb : ∀ x : Int, 0 ≤ x → x < n → 0 ≤ σ 116 (10 * k + x) ∧ σ 116 (10 * k + x) ≤ 100000000) (ha : 0 < sm w n) :
    am_M Ln (d + 1) 199 [vR 82, vI k, vI s, vI z] σ (am_rV fun σ' => ∃ f, σ' = zc σ 125 f ∧ (∀ x : Int, 0 ≤ x → x < n → f x = pq s w n x) ∧ ∀ x : Int, n ≤ x → f x = σ 125 x) := by
  have hwn : ∀ i : Int, 0 ≤ i → i < n → 0 ≤ w i := fun i a b => by rw [hw]; dsimp only; split; omega; exact (hb i a b).1
  have hwb : ∀ i : Int, 0 ≤ i → i < n → w i ≤ 100000000 := fun i a b => by rw [hw]; dsimp only; split; omega; exact (hb i a b).2
  have smb : ∀ j : Nat, j ≤ n → 0 ≤ sm w j ∧ sm w j ≤ 100000000 * j := by
    intro j hj
    induction j with
    | zero => exact ⟨Int.le_refl 0, by rw [sm]; omega⟩
    | succ j ih =>
      have h1 := ih (by omega)
      have h2 := hwn j (by omega) (by omega)
      have h3 := hwb j (by omega) (by omega)
      rw [sm]
      omega
  have hsN := smb n (Nat.le_refl n)
  have hsum := fun (j : Nat) (hj : j ≤ n) => pq_sum hs.1 ha hwn hj
  have heach := fun (i : Int) (a : 0 ≤ i) (b : i < n) => pq_each hs.1 ha hwn a b
  have e3 : ∀ f, zc σ 125 f 82 3 = n := fun f => by rw [zc_ne (by decide), hn]
  have e116 : ∀ f, zc σ 125 f 116 = σ 116 := fun f => zc_ne (by decide)
  -- the third loop: one each
  have l3 : ∀ (m j : Nat) (f : Int → Int), j + m = n → (∀ x : Int, 0 ≤ x → x < j → f x = pq s w n x) → (∀ x : Int, j ≤ x → x < n → f x = s * w x / sm w n) → (∀ x : Int, n ≤ x → f x = σ 125 x) → 0 ≤ s - sm (fun j => s * w j / sm w n) n - cp w j →
      am_E Ln d 199 122 [vR 82, vI k, vU, vI z, vU, vI (s - sm (fun j => s * w j / sm w n) n - cp w j), vI (j : Int)] [] (zc σ 125 f) (am_rV fun σ' => ∃ f, σ' = zc σ 125 f ∧ (∀ x : Int, 0 ≤ x → x < n → f x = pq s w n x) ∧ ∀ x : Int, n ≤ x → f x = σ 125 x) := by
    intro m
    induction m with
    | zero =>
      intro j f hj h1 h2 h3 hl
      obtain rfl : j = n := by omega
      exact vl_X12_partsOut_122 _ _ _ _ _ ⟨fun _ => ⟨f, rfl, h1, h3⟩, fun h => absurd (by rw [e3]; omega) h⟩
    | succ m ih =>
      intro j f hj h1 h2 h3 hl
      have hsn := hsum n (Nat.le_refl n)
      have hcb := cp_bd (w := w) j
      have hej := heach j (by omega) (by omega)
      refine vl_X12_partsOut_122 _ _ _ _ _ ⟨fun h => absurd h (by rw [e3]; omega), fun _ => ⟨fun h => ⟨f, rfl, fun x a b => ?_, h3⟩, fun h => ?_⟩⟩
      · by_cases e : x < j
        · exact h1 x a e
        · rw [h2 x (by omega) b, pq, if_neg, Int.add_zero]
          rintro ⟨-, q⟩
          have := cp_mono (w := w) (k := j) (n := x.toNat) (by omega)
          omega
      · have epq : pq s w n j = s * w j / sm w n + (if 0 < w j then 1 else 0) := by
          rw [pq, show ((j : Int)).toNat = j by omega]
          by_cases e : 0 < w j
          · rw [if_pos ⟨e, by omega⟩, if_pos e]
          · rw [if_neg (fun q => e q.1), if_neg e]
        have nx0 : ¬ 0 < w j → am_E Ln d 199 122 [vR 82, vI k, vU, vI z, vU, vI (s - sm (fun j => s * w j / sm w n) n - cp w j), vI (w32 ((j : Int) + 1))] [] (zc σ 125 f) (am_rV fun σ' => ∃ f, σ' = zc σ 125 f ∧ (∀ x : Int, 0 ≤ x → x < n → f x = pq s w n x) ∧ ∀ x : Int, n ≤ x → f x = σ 125 x) := by
          intro e
          rw [if_neg e, Int.add_zero] at epq
          have key := ih (j + 1) f (by omega) (fun x a b => by
            by_cases ex : x = j
            · rw [ex, epq, h2 j (by omega) (by omega)]
            · exact h1 x a (by omega)) (fun x a b => h2 x (by omega) b) h3 (by rw [cp, if_neg e]; omega)
          rw [cp, if_neg e, Int.add_zero, show ((j + 1 : Nat) : Int) = (j : Int) + 1 by omega] at key
          rw [w32_id (x := (j : Int) + 1) (by omega) (by omega)]
          exact key
        refine ⟨fun hz => nx0 (by rw [hw]; dsimp only; rw [if_pos hz]; omega), fun hz => ?_⟩
        rw [e116, w32_id (x := 10 * k) (by omega) (by omega), w32_id (x := 10 * k + (j : Int)) (by omega) (by omega)]
        have ewj : w j = σ 116 (10 * k + j) := by rw [hw]; dsimp only; rw [if_neg hz]
        have hbj := hb j (by omega) (by omega)
        refine ⟨⟨by omega, by omega⟩, fun h0 => nx0 (by omega), fun h0 => ⟨⟨by omega, by omega⟩, ⟨by omega, by omega⟩, ?_⟩⟩
        have hpos : 0 < w j := by omega
        rw [if_pos hpos] at epq
        have key := ih (j + 1) (fu f j (s * w j / sm w n + 1)) (by omega) (fun x a b => by
          by_cases ex : x = j
          · rw [ex, fu_eq, epq]
          · rw [fu_ne ex]; exact h1 x a (by omega)) (fun x a b => by rw [fu_ne (by omega)]; exact h2 x (by omega) b) (fun x a => by rw [fu_ne (by omega)]; exact h3 x a) (by rw [cp, if_pos hpos]; omega)
        rw [cp, if_pos hpos, show ((j + 1 : Nat) : Int) = (j : Int) + 1 by omega] at key
        rw [up_zcs, zc_eq, h2 j (by omega) (by omega), w32_id (x := s * w j / sm w n + 1) (by omega) (by omega), w32_id (x := s - sm (fun j => s * w j / sm w n) n - cp w j + -1) (by omega) (by omega), w32_id (x := (j : Int) + 1) (by omega) (by omega), show s - sm (fun j => s * w j / sm w n) n - cp w j + -1 = s - sm (fun j => s * w j / sm w n) n - (cp w j + 1) by omega]
        exact key
  -- the second loop: rounded down
  have l2 : ∀ (m j : Nat) (f : Int → Int), j + m = n → (∀ x : Int, 0 ≤ x → x < j → f x = s * w x / sm w n) → (∀ x : Int, n ≤ x → f x = σ 125 x) →
      am_E Ln d 199 54 [vR 82, vI k, vI s, vI z, vI (sm w n), vI (s - sm (fun j => s * w j / sm w n) j), vI (j : Int)] [] (zc σ 125 f) (am_rV fun σ' => ∃ f, σ' = zc σ 125 f ∧ (∀ x : Int, 0 ≤ x → x < n → f x = pq s w n x) ∧ ∀ x : Int, n ≤ x → f x = σ 125 x) := by
    intro m
    induction m with
    | zero =>
      intro j f hj h1 h3
      obtain rfl : j = n := by omega
      refine vl_X12_partsOut_54 _ _ _ _ _ _ _ ⟨fun _ => ?_, fun h => absurd (by rw [e3]; omega) h⟩
      have key := l3 j 0 f (by omega) (fun x a b => by omega) (fun x a b => h1 x (by omega) b) h3 (by rw [cp]; have := hsum j (Nat.le_refl j); omega)
      rw [cp, Int.sub_zero] at key
      exact key
    | succ m ih =>
      intro j f hj h1 h3
      have hej := heach j (by omega) (by omega)
      have hs1 := hsum j (by omega)
      have hs2 := hsum (j + 1) (by omega)
      rw [sm] at hs2
      have key := ih (j + 1) (fu f j (s * w j / sm w n)) (by omega) (fun x a b => by
        by_cases ex : x = j
        · rw [ex, fu_eq]
        · rw [fu_ne ex]; exact h1 x a (by omega)) (fun x a => by rw [fu_ne (by omega)]; exact h3 x a)
      rw [sm, show ((j + 1 : Nat) : Int) = (j : Int) + 1 by omega] at key
      have hg : s - sm (fun j => s * w j / sm w n) j - s * w j / sm w n = s - (sm (fun j => s * w j / sm w n) j + s * w j / sm w n) := by omega
      refine vl_X12_partsOut_54 _ _ _ _ _ _ _ ⟨fun h => absurd h (by rw [e3]; omega), fun _ => ⟨fun hz => ⟨⟨by omega, by omega⟩, ⟨by omega, by omega⟩, ?_⟩, fun hz => ?_⟩⟩
      · have ez : s * w j / sm w n = 0 := by
          have : w j = 0 := by rw [hw]; dsimp only; rw [if_pos hz]
          rw [this, Int.mul_zero, Int.zero_ediv]
        rw [ez] at key hg
        rw [up_zcs, zc_eq, fu_eq, w32_id (x := s - sm (fun j => s * w j / sm w n) j - 0) (by omega) (by omega), w32_id (x := (j : Int) + 1) (by omega) (by omega), hg]
        exact key
      · rw [e116, w32_id (x := 10 * k) (by omega) (by omega), w32_id (x := 10 * k + (j : Int)) (by omega) (by omega)]
        have ewj : σ 116 (10 * k + j) = w j := by rw [hw]; dsimp only; rw [if_neg hz]
        have hm1 : 0 ≤ s * w j := Int.mul_nonneg hs.1 (hwn j (by omega) (by omega))
        have hm2 : s * w j ≤ 1000000 * 100000000 := Int.mul_le_mul hs.2 (hwb j (by omega) (by omega)) (hwn j (by omega) (by omega)) (by omega)
        rw [ewj, w64_id (x := s * w j) (by omega) (by omega), tdiv_nn hm1, w64_id (x := s * w j / sm w n) (by omega) (by omega), w32_id (x := s * w j / sm w n) (by omega) (by omega)]
        refine ⟨⟨by omega, by omega⟩, by omega, ⟨by omega, by omega⟩, ⟨by omega, by omega⟩, ?_⟩
        rw [up_zcs, zc_eq, fu_eq, w32_id (x := s - sm (fun j => s * w j / sm w n) j - s * w j / sm w n) (by omega) (by omega), w32_id (x := (j : Int) + 1) (by omega) (by omega), hg]
        exact key
  -- the first loop: all together
  have l1 : ∀ (m j : Nat), j + m = n → am_E Ln d 199 6 [vR 82, vI k, vI s, vI z, vI (sm w j), vI (j : Int), vU] [] (zc σ 125 (σ 125)) (am_rV fun σ' => ∃ f, σ' = zc σ 125 f ∧ (∀ x : Int, 0 ≤ x → x < n → f x = pq s w n x) ∧ ∀ x : Int, n ≤ x → f x = σ 125 x) := by
    intro m
    induction m with
    | zero =>
      intro j hj
      obtain rfl : j = n := by omega
      refine vl_X12_partsOut_6 _ _ _ _ _ _ ⟨fun _ => ?_, fun h => absurd (by rw [e3]; omega) h⟩
      have key := l2 j 0 (σ 125) (by omega) (fun x a b => by omega) (fun x _ => rfl)
      rw [sm, Int.sub_zero] at key
      exact key
    | succ m ih =>
      intro j hj
      have h1 := smb j (by omega)
      have h2 := hwn j (by omega) (by omega)
      have h3 := hwb j (by omega) (by omega)
      have key := ih (j + 1) (by omega)
      rw [sm, show ((j + 1 : Nat) : Int) = (j : Int) + 1 by omega] at key
      refine vl_X12_partsOut_6 _ _ _ _ _ _ ⟨fun h => absurd h (by rw [e3]; omega), fun _ => ⟨fun hz => ?_, fun hz => ?_⟩⟩
      · have e0 : w j = 0 := by rw [hw]; dsimp only; rw [if_pos hz]
        rw [e0] at key
        rw [w32_id (x := sm w j + 0) (by omega) (by omega), w32_id (x := (j : Int) + 1) (by omega) (by omega)]
        exact key
      · rw [e116, w32_id (x := 10 * k) (by omega) (by omega), w32_id (x := 10 * k + (j : Int)) (by omega) (by omega)]
        have ewj : σ 116 (10 * k + j) = w j := by rw [hw]; dsimp only; rw [if_neg hz]
        rw [ewj, w32_id (x := sm w j + w j) (by omega) (by omega), w32_id (x := (j : Int) + 1) (by omega) (by omega)]
        exact ⟨⟨by omega, by omega⟩, key⟩
  have key := l1 n 0 (by omega)
  rw [zc_self] at key
  exact vm_X12_partsOut _ _ _ _ key
