/-! what holds at the start -/
theorem INV_start {σ : AS} (h0 : ∀ c : Nat, c ≠ 0 → c ≠ 121 → ∀ i : Int, σ c i = 0) (h121 : ∀ x : Int, 0 ≤ x → x < 10 → σ 121 x = -1) (G : Int → GF) : INV σ 0 G := by
  have z : ∀ c d : Nat, c ≠ 0 → c ≠ 121 → d ≠ 0 → d ≠ 121 → σ c = σ d := fun c d a b e f => by
    funext i
    rw [h0 c a b, h0 d e f]
  have y : ∀ (c d : Nat) (i j : Int), c ≠ 0 → c ≠ 121 → d ≠ 0 → d ≠ 121 → σ c i = σ d j := fun c d i j a b e f => by
    rw [h0 c a b, h0 d e f]
  have hB : BK σ := by
    rw [BK_iff]
    have p1 : ∀ q ∈ bkP, (q.1 ≠ 0 ∧ q.1 ≠ 121) ∧ q.2 ≠ 0 ∧ q.2 ≠ 121 := by decide
    have p2 : ∀ q ∈ bkQ, (q.1.1 ≠ 0 ∧ q.1.1 ≠ 121) ∧ q.2.1 ≠ 0 ∧ q.2.1 ≠ 121 := by decide
    exact ⟨fun q hq => z _ _ (p1 q hq).1.1 (p1 q hq).1.2 (p1 q hq).2.1 (p1 q hq).2.2, fun q hq => y _ _ _ _ (p2 q hq).1.1 (p2 q hq).1.2 (p2 q hq).2.1 (p2 q hq).2.2⟩
  have e7 : σ 7 11 = 0 := h0 7 (by decide) (by decide) _
  have e24 : σ 24 14 = 0 := h0 24 (by decide) (by decide) _
  have e706 : σ 70 6 = 0 := h0 70 (by decide) (by decide) _
  have e763 : σ 76 3 = 0 := h0 76 (by decide) (by decide) _
  have e21 : σ 2 1 = 0 := h0 2 (by decide) (by decide) _
  have e71 : ∀ i, σ 71 i = 0 := fun i => h0 71 (by decide) (by decide) i
  have e111 : σ 1 11 = 0 := h0 1 (by decide) (by decide) _
  have e110 : σ 1 10 = 0 := h0 1 (by decide) (by decide) _
  have e112 : σ 1 12 = 0 := h0 1 (by decide) (by decide) _
  have e42 : σ 4 2 = 0 := h0 4 (by decide) (by decide) _
  have e194 : σ 19 4 = 0 := h0 19 (by decide) (by decide) _
  have e704 : σ 70 4 = 0 := h0 70 (by decide) (by decide) _
  have ecn : cn0 (σ 71) 10 = 0 := cn0_short (f := σ 71) (k := 0) (by omega) (fun i _ _ => e71 i)
  refine ⟨⟨hB, by rw [e111]; rfl, by omega, by omega, by omega, ⟨?_, fun x => ?_⟩, fun i a b => absurd b (by omega)⟩, fun i a b => absurd b (by omega), ⟨by omega, fun r a b => absurd b (by omega)⟩, ⟨by omega, by omega, by omega, by omega, fun p a b => ?_, fun h => absurd h (by omega), h121⟩, ⟨by omega, fun i a b => absurd b (by omega)⟩, ⟨z _ _ (by decide) (by decide) (by decide) (by decide), fun p a b => ⟨by rw [e71]; omega, fun _ => e71 p⟩, by rw [e704, ecn], by omega⟩, ⟨by omega, fun i a b => absurd b (by omega), fun a _ _ => ⟨0, h0 72 (by decide) (by decide) a, by decide, fun b _ => ?_⟩⟩, ⟨by omega, ⟨z _ _ (by decide) (by decide) (by decide) (by decide), z _ _ (by decide) (by decide) (by decide) (by decide), z _ _ (by decide) (by decide) (by decide) (by decide)⟩, fun i a b => absurd b (by omega)⟩, fun i a b => absurd b (by omega)⟩
  · rw [e7]; exact List.Pairwise.nil
  · rw [e7]
    exact ⟨fun h => (by cases h), fun h => (by omega)⟩
  · have : σ 5 p = 0 := h0 5 (by decide) (by decide) p
    exact ⟨by omega, Or.inl this⟩
  · rw [e706, Nat.zero_testBit]
    rfl
/-- the law, but for the pairs of rules and sure -/
theorem law_all {Ln : Int} (hL : 0 ≤ Ln ∧ Ln ≤ 4096) {σ : AS} (hx : ∀ j : Int, -2147483648 ≤ σ 0 j ∧ σ 0 j < 2147483648) (h0 : ∀ c : Nat, c ≠ 0 → c ≠ 121 → ∀ i : Int, σ c i = 0) (h121 : ∀ x : Int, 0 ≤ x → x < 10 → σ 121 x = -1)
    (hR : ∀ (σ : AS) (n : Nat) (G : Int → GF), INV σ n G → ∀ a b c e : Int, PR Ln 101 [vR 1, vI a, vI b, vI c, vI e] 175 [vR 82, vI a, vI b, vI c, vI e] σ)
    (hS : ∀ (σ : AS) (n : Nat) (G : Int → GF), INV σ n G → ∀ a b c e : Int, PR Ln 110 [vR 1, vI a, vI b, vI c, vI e] 220 [vR 82, vI a, vI b, vI c, vI e] σ) :
    am_E Ln 1000 0 16 [vR 0, vR 1, vR 82, vU] [] σ (fun r _ => r = some (vI 1)) :=
  vl_law_16 _ (lp_law hL hx hR hS Ln.toNat 0 σ (by omega) (by omega) rfl ⟨0, fun _ _ => none, INV_start h0 h121 _⟩)
