/-! what is kept and comes back -/
theorem RX_ext {m : MS} {a b : AS} (h : RX m a) (h3 : b 41 3 = a 41 3) (h1 : ∀ i : Int, 0 ≤ i → i < a 41 3 → b 42 i = a 42 i ∧ b 43 i = a 43 i ∧ b 44 i = a 44 i) (h45 : ∀ p : Int, 0 ≤ p → p < 10 → b 45 p = a 45 p) (h46 : ∀ c : Int, 0 ≤ c → c < 100 → b 46 c = a 46 c ∧ b 47 c = a 47 c) : RX m b := by
  obtain ⟨⟨w1, w2, w3⟩, r2, r3, r4⟩ := h
  have exl : xl b = xl a := by
    unfold xl
    rw [h3]
    refine rl_congr (fun i x y => ?_)
    obtain ⟨e1, e2, e3⟩ := h1 i x y
    rw [e1, e2, e3]
  refine ⟨⟨by rw [h3]; exact w1, fun i x y => ?_, fun p x y => ?_⟩, fun p x y => ?_, fun c x y => ?_, fun c x y => ?_⟩
  · rw [h3] at y
    obtain ⟨e1, e2, e3⟩ := h1 i x y
    rw [e1, e2, e3]
    exact w2 i x y
  · rw [h45 p x y, h3]
    rcases w3 p x y with ⟨u1, u2⟩ | ⟨u1, u2, u3⟩
    · exact Or.inl ⟨u1, fun i i0 i1 => by rw [(h1 i i0 i1).1]; exact u2 i i0 i1⟩
    · exact Or.inr ⟨u1, by rw [(h1 _ u1.1 u1.2).1]; exact u2, fun i i0 i1 => by rw [(h1 i (by omega) i1).1]; exact u3 i i0 i1⟩
  · unfold xp
    rw [exl]
    exact r2 p x y
  · rw [(h46 c x y).1]; exact r3 c x y
  · rw [(h46 c x y).2]; exact r4 c x y
def KP (a s : AS) : Prop := s 53 3 = a 41 3 ∧ (∀ i : Int, 0 ≤ i → i < a 41 3 → s 54 i = a 42 i ∧ s 55 i = a 43 i ∧ s 56 i = a 44 i) ∧ (∀ p : Int, 0 ≤ p → p < 10 → s 57 p = a 45 p) ∧ ∀ c : Int, 0 ≤ c → c < 100 → s 58 c = a 46 c ∧ s 59 c = a 47 c
theorem Fr.cpy {cs : List Nat} {fs : List (Nat × Int)} {σ σ' : AS} {a0 a1 : Nat} {sp dp n : Int} (h : Fr cs fs σ σ') (hc : a1 ∈ cs) : Fr cs fs σ (am_cpy σ' a0 a1 sp dp n) := fun c i a b => by
  rw [am_cpy_ne (fun q => a (by rw [q]; exact hc))]
  exact h c i a b
theorem cpy_in {σ : AS} {a0 a1 : Nat} {n i : Int} (h0 : 0 ≤ i) (h1 : i < n) : am_cpy σ a0 a1 0 0 n a1 i = σ a0 i := by
  rw [am_cpy_eq, if_pos ⟨h0, by omega⟩, show 0 + (i - 0) = i by omega]
section KG
variable {Ln : Int} {d : Nat}
theorem sp_keep {σ : AS} (hz : 0 ≤ σ 41 3 ∧ σ 41 3 ≤ 1010) : am_M Ln (d + 2) 34 [vR 40] σ (am_rV fun s => KP σ s ∧ Fr [54, 55, 56, 57, 58, 59] [(53, 3)] σ s) := by
  refine vm_X6_keep _ (cV (P := fun s => KP σ s ∧ Fr [54, 55, 56, 57, 58, 59] [(53, 3)] σ s) (vm_k_X9_copyFrom _ ?_) (fun s h => h))
  obtain ⟨z, hzz⟩ : ∃ z, z = σ 41 3 := ⟨_, rfl⟩
  have e1 : min (σ 41 3) (1010 : Int) = z := by rw [hzz]; omega
  rw [← hzz] at hz
  rw [e1]
  have e2 : (am_cpy (am_up σ 53 3 z) 42 54 0 0 z) 53 3 = z := by rw [am_cpy_ne (by decide), am_up_eq, if_pos rfl]
  rw [e2]
  have e3 : (am_cpy (am_cpy (am_up σ 53 3 z) 42 54 0 0 z) 43 55 0 0 z) 53 3 = z := by rw [am_cpy_ne (by decide), e2]
  rw [e3]
  refine ⟨by omega, by omega, by omega, by omega, by omega, by omega, ?_, ?_⟩
  · refine ⟨?_, fun i a b => ⟨?_, ?_, ?_⟩, fun p a b => ?_, fun c a b => ⟨?_, ?_⟩⟩
    · rw [am_cpy_ne (by decide), am_cpy_ne (by decide), am_cpy_ne (by decide), am_cpy_ne (by decide), e3, hzz]
    · rw [am_cpy_ne (by decide), am_cpy_ne (by decide), am_cpy_ne (by decide), am_cpy_ne (by decide), am_cpy_ne (by decide), cpy_in a (by omega), am_up_ne (by decide)]
    · rw [am_cpy_ne (by decide), am_cpy_ne (by decide), am_cpy_ne (by decide), am_cpy_ne (by decide), cpy_in a (by omega), am_cpy_ne (by decide), am_up_ne (by decide)]
    · rw [am_cpy_ne (by decide), am_cpy_ne (by decide), am_cpy_ne (by decide), cpy_in a (by omega), am_cpy_ne (by decide), am_cpy_ne (by decide), am_up_ne (by decide)]
    · rw [am_cpy_ne (by decide), am_cpy_ne (by decide), cpy_in a b, am_cpy_ne (by decide), am_cpy_ne (by decide), am_cpy_ne (by decide), am_up_ne (by decide)]
    · rw [am_cpy_ne (by decide), cpy_in a b, am_cpy_ne (by decide), am_cpy_ne (by decide), am_cpy_ne (by decide), am_cpy_ne (by decide), am_up_ne (by decide)]
    · rw [cpy_in a b, am_cpy_ne (by decide), am_cpy_ne (by decide), am_cpy_ne (by decide), am_cpy_ne (by decide), am_cpy_ne (by decide), am_up_ne (by decide)]
  · exact Fr.cpy (Fr.cpy (Fr.cpy (Fr.cpy (Fr.cpy (Fr.cpy (Fr.up Fr.rf (Or.inr (by decide))) (by decide)) (by decide)) (by decide)) (by decide)) (by decide)) (by decide)
theorem sp_goBack {σ a : AS} {m : MS} (hR : RX m a) (hK : KP a σ) : am_M Ln (d + 2) 35 [vR 40] σ (am_rV fun s => RX m s ∧ Fr [42, 43, 44, 45, 46, 47] [(41, 3)] σ s) := by
  refine vm_X6_goBack _ (cV (P := fun s => RX m s ∧ Fr [42, 43, 44, 45, 46, 47] [(41, 3)] σ s) (vm_b_X9_copyFrom _ ?_) (fun s h => h))
  have hz := hR.1.1
  obtain ⟨k1, k2, k3, k4⟩ := hK
  obtain ⟨z, hzz⟩ : ∃ z, z = a 41 3 := ⟨_, rfl⟩
  rw [← hzz] at hz k1
  have e1 : min (σ 53 3) (1010 : Int) = z := by rw [k1]; omega
  rw [e1]
  have e2 : (am_cpy (am_up σ 41 3 z) 54 42 0 0 z) 41 3 = z := by rw [am_cpy_ne (by decide), am_up_eq, if_pos rfl]
  rw [e2]
  have e3 : (am_cpy (am_cpy (am_up σ 41 3 z) 54 42 0 0 z) 55 43 0 0 z) 41 3 = z := by rw [am_cpy_ne (by decide), e2]
  rw [e3]
  refine ⟨by omega, by omega, by omega, by omega, by omega, by omega, ?_, ?_⟩
  · refine RX_ext hR ?_ (fun i x y => ⟨?_, ?_, ?_⟩) (fun p x y => ?_) (fun c x y => ⟨?_, ?_⟩)
    · rw [am_cpy_ne (by decide), am_cpy_ne (by decide), am_cpy_ne (by decide), am_cpy_ne (by decide), e3, hzz]
    · rw [am_cpy_ne (by decide), am_cpy_ne (by decide), am_cpy_ne (by decide), am_cpy_ne (by decide), am_cpy_ne (by decide), cpy_in x (by omega), am_up_ne (by decide)]
      exact (k2 i x y).1
    · rw [am_cpy_ne (by decide), am_cpy_ne (by decide), am_cpy_ne (by decide), am_cpy_ne (by decide), cpy_in x (by omega), am_cpy_ne (by decide), am_up_ne (by decide)]
      exact (k2 i x y).2.1
    · rw [am_cpy_ne (by decide), am_cpy_ne (by decide), am_cpy_ne (by decide), cpy_in x (by omega), am_cpy_ne (by decide), am_cpy_ne (by decide), am_up_ne (by decide)]
      exact (k2 i x y).2.2
    · rw [am_cpy_ne (by decide), am_cpy_ne (by decide), cpy_in x y, am_cpy_ne (by decide), am_cpy_ne (by decide), am_cpy_ne (by decide), am_up_ne (by decide)]
      exact k3 p x y
    · rw [am_cpy_ne (by decide), cpy_in x y, am_cpy_ne (by decide), am_cpy_ne (by decide), am_cpy_ne (by decide), am_cpy_ne (by decide), am_up_ne (by decide)]
      exact (k4 c x y).1
    · rw [cpy_in x y, am_cpy_ne (by decide), am_cpy_ne (by decide), am_cpy_ne (by decide), am_cpy_ne (by decide), am_cpy_ne (by decide), am_up_ne (by decide)]
      exact (k4 c x y).2
  · exact Fr.cpy (Fr.cpy (Fr.cpy (Fr.cpy (Fr.cpy (Fr.cpy (Fr.up Fr.rf (Or.inr (by decide))) (by decide)) (by decide)) (by decide)) (by decide)) (by decide)) (by decide)
/-- there are no shares of things that there are not -/
def NTz (N : Nat) (m : MS) : Prop := ∀ k o : Int, N ≤ k → k < 10 → 0 ≤ o → o < 10 → m.2.1 (10 * k + o) = 0
theorem mact_NT {C : AS} {F : FD} {t : Int} {fo : Int → Int} {i : Int} {m : MS} {N : Nat} (h : C 8 i = 3 → 0 ≤ C 10 i ∧ C 10 i < N) (hm : NTz N m) : NTz N (mact C F t fo i m) := by
  intro k o a b c e
  have h0 := hm k o a b c e
  unfold mact
  by_cases h1 : tkD (C 8 i) = true
  · rw [if_pos h1]
    split
    · exact h0
    · split
      · exact h0
      · split
        · exact h0
        · rename_i z1 z2
          have hh := h (by rcases tkD_iff.mp h1 with q | q | q <;> omega)
          dsimp only
          unfold addR
          rw [if_neg (by omega)]
          exact h0
  · rw [if_neg h1]
    split
    · exact h0
    · split
      · show (if 10 * C 10 i ≤ 10 * k + o ∧ 10 * k + o < 10 * C 10 i + 10 then 0 else m.2.1 (10 * k + o)) = 0
        split
        · rfl
        · exact h0
      · exact h0
theorem mpl_NT {C : AS} {F : FD} {t : Int} {fo : Int → Int} {N : Nat} : ∀ (L : List Int) (m : MS), (∀ i ∈ L, C 8 i = 3 → 0 ≤ C 10 i ∧ C 10 i < N) → NTz N m → NTz N (mpl C F t fo L m)
  | [], m, _, hm => hm
  | i :: L, m, h, hm => by
    rw [mpl]
    exact mpl_NT L _ (fun x hx => h x (List.mem_cons_of_mem _ hx)) (mact_NT (h i List.mem_cons_self) hm)
theorem m0_NT {N : Nat} : NTz N m0 := fun k o _ _ _ _ => rfl
end KG
