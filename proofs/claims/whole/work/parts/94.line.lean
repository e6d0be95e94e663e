/-! a new line: the class sorts it in -/
theorem lp_sortIn {Ln : Int} {d : Nat} {σ1 : AS} {z : Int} (hz : 0 ≤ z ∧ z < 100) (hp : (rl z (σ1 18)).Pairwise (ahd σ1)) (hm : ∀ x, x ∈ rl z (σ1 18) ↔ 0 ≤ x ∧ x < z) : ∀ (k : Nat) (σ : AS), (k : Int) ≤ z → Fr [18] [] σ1 σ → (∀ j : Int, j < k → σ 18 j = σ1 18 j) → (∀ j : Int, k < j → j ≤ z → σ 18 j = σ1 18 (j - 1)) → (∀ j : Int, k ≤ j → j < z → ahd σ1 z (σ1 18 j)) →
    am_E Ln (d + 1) 19 2 [vR 7, vI z, vI (k : Int)] [] σ (am_rV fun τ => Fr [18] [] σ1 τ ∧ (rl (z + 1) (τ 18)).Pairwise (ahd σ1) ∧ ∀ x, x ∈ rl (z + 1) (τ 18) ↔ 0 ≤ x ∧ x < z + 1) := by
  obtain ⟨R, hR⟩ : ∃ R : Nat, z = R := ⟨z.toNat, by omega⟩
  rw [hR] at hp hm
  have pw := rl_pw.mp hp
  have mem : ∀ j : Int, 0 ≤ j → j < R → (0 ≤ σ1 18 j ∧ σ1 18 j < z) := fun j a b => by rw [hR]; exact (hm _).mp (rl_mem.mpr ⟨j, a, b, rfl⟩)
  have fin : ∀ (k : Int) (σ : AS), 0 ≤ k → k ≤ R → Fr [18] [] σ1 σ → (∀ j : Int, j < k → σ 18 j = σ1 18 j) → (∀ j : Int, k < j → j ≤ R → σ 18 j = σ1 18 (j - 1)) → (∀ j : Int, k ≤ j → j < R → ahd σ1 z (σ1 18 j)) → (0 < k → ¬ ahd σ1 z (σ1 18 (k - 1))) →
      (fun τ => Fr [18] [] σ1 τ ∧ (rl (z + 1) (τ 18)).Pairwise (ahd σ1) ∧ ∀ x, x ∈ rl (z + 1) (τ 18) ↔ 0 ≤ x ∧ x < z + 1) (am_up σ 18 k z) := by
    intro k σ h0 h1 hfr ha hb hc hzz
    obtain ⟨τ, hτ⟩ : ∃ τ, τ = am_up σ 18 k z := ⟨_, rfl⟩
    rw [← hτ]
    have t18 : ∀ j, τ 18 j = if j = k then z else σ 18 j := fun j => by rw [hτ, am_up_eq]
    have v : ∀ j : Int, 0 ≤ j → j ≤ R → (j < k ∧ τ 18 j = σ1 18 j) ∨ (j = k ∧ τ 18 j = z) ∨ (k < j ∧ τ 18 j = σ1 18 (j - 1)) := by
      intro j c0 c1
      rw [t18]
      by_cases e : j = k
      · rw [if_pos e]; exact Or.inr (Or.inl ⟨e, rfl⟩)
      · rw [if_neg e]
        by_cases e2 : j < k
        · exact Or.inl ⟨e2, ha j e2⟩
        · exact Or.inr (Or.inr ⟨by omega, hb j (by omega) c1⟩)
    have before : ∀ j : Int, 0 ≤ j → j < k → ahd σ1 (σ1 18 j) z := by
      intro j c0 c1
      have hl : ahd σ1 (σ1 18 (k - 1)) z := by
        have hne : σ1 18 (k - 1) ≠ z := by have := mem (k - 1) (by omega) (by omega); omega
        exact (ahd_tot hne).resolve_right (hzz (by omega))
      by_cases e : j = k - 1
      · rw [e]; exact hl
      · exact ahd_tr (pw j (k - 1) c0 (by omega) (by omega)) hl
    rw [show z + 1 = ((R + 1 : Nat) : Int) by omega]
    refine ⟨?_, ?_, fun x => ?_⟩
    · rw [hτ]; exact Fr.up hfr (Or.inl (by decide))
    · rw [rl_pw]
      intro a b c0 c1 c2
      rcases v a c0 (by omega) with ⟨u1, u2⟩ | ⟨u1, u2⟩ | ⟨u1, u2⟩
      · rcases v b (by omega) (by omega) with ⟨w1, w2⟩ | ⟨w1, w2⟩ | ⟨w1, w2⟩
        · rw [u2, w2]; exact pw a b c0 c1 (by omega)
        · rw [u2, w2]; exact before a c0 u1
        · rw [u2, w2]
          exact ahd_tr (before a c0 u1) (hc (b - 1) (by omega) (by omega))
      · rcases v b (by omega) (by omega) with ⟨w1, w2⟩ | ⟨w1, w2⟩ | ⟨w1, w2⟩
        · omega
        · omega
        · rw [u2, w2]; exact hc (b - 1) (by omega) (by omega)
      · rcases v b (by omega) (by omega) with ⟨w1, w2⟩ | ⟨w1, w2⟩ | ⟨w1, w2⟩
        · omega
        · omega
        · rw [u2, w2]; exact pw (a - 1) (b - 1) (by omega) (by omega) (by omega)
    · constructor
      · intro hx
        obtain ⟨j, c0, c1, rfl⟩ := rl_mem.mp hx
        rcases v j c0 (by omega) with ⟨u1, u2⟩ | ⟨u1, u2⟩ | ⟨u1, u2⟩
        · rw [u2]; have := mem j c0 (by omega); omega
        · rw [u2]; omega
        · rw [u2]; have := mem (j - 1) (by omega) (by omega); omega
      · rintro ⟨x0, x1⟩
        by_cases e : x = z
        · refine rl_mem.mpr ⟨k, h0, by omega, ?_⟩
          rw [t18, if_pos rfl, e]
        · obtain ⟨j, c0, c1, c2⟩ := rl_mem.mp ((hm x).mpr ⟨x0, by omega⟩)
          by_cases e2 : j < k
          · refine rl_mem.mpr ⟨j, c0, by omega, ?_⟩
            rw [t18, if_neg (by omega), ha j e2, c2]
          · refine rl_mem.mpr ⟨j + 1, by omega, by omega, ?_⟩
            rw [t18, if_neg (by omega), hb (j + 1) (by omega) (by omega), show j + 1 - 1 = j by omega, c2]
  intro k
  induction k with
  | zero =>
    intro σ hkR hfr ha hb hc
    exact vl_X3_sortIn_2 _ _ _ ⟨fun _ => ⟨⟨by omega, by omega⟩, fin 0 σ (by omega) (by omega) hfr ha (by rw [← hR]; exact hb) (by rw [← hR]; exact hc) (fun q => absurd q (by omega))⟩, fun q => absurd (by omega) q⟩
  | succ k ih =>
    intro σ hkR hfr ha hb hc
    have hk1 : ((k + 1 : Nat) : Int) = (k : Int) + 1 := by omega
    rw [hk1] at hkR ha hb hc ⊢
    have ev : σ 18 k = σ1 18 k := ha k (by omega)
    have hmk := mem k (by omega) (by omega)
    have e13 : σ 13 = σ1 13 := hfr.cell 13 (by decide)
    have e14 : σ 14 = σ1 14 := hfr.cell 14 (by decide)
    refine vl_X3_sortIn_2 _ _ _ ⟨fun q => absurd q (by omega), fun _ => ?_⟩
    rw [w32_id (x := (k : Int) + 1 - 1) (by omega) (by omega), show (k : Int) + 1 - 1 = k by omega, ev]
    refine ⟨⟨by omega, by omega⟩, cI (P := fun r s => (r = 0 → ¬ ahd σ1 z (σ1 18 k)) ∧ (r ≠ 0 → ahd σ1 z (σ1 18 k)) ∧ s = σ) ?_ ?_⟩
    · refine vm_X3_isLater _ _ _ ⟨⟨by omega, by omega⟩, hz, ?_⟩
      rw [e13, e14]
      unfold ahd
      exact ⟨fun h1 => ⟨am_b1, fun q => absurd q (by omega), fun _ => by omega, rfl⟩, fun h1 => ⟨⟨by omega, by omega⟩, hz, fun h2 => ⟨⟨by omega, by omega⟩, hz, fun h3 => ⟨am_b0, fun _ => by omega, fun q => absurd rfl q, rfl⟩, fun h3 => ⟨am_b1, fun q => absurd q (by omega), fun _ => by omega, rfl⟩⟩, fun h2 => ⟨am_b0, fun _ => by omega, fun q => absurd rfl q, rfl⟩⟩⟩
    · rintro r s1 ⟨r1, r2, rfl⟩
      refine ⟨fun q => ⟨⟨by omega, by omega⟩, ?_⟩, fun q => ⟨⟨by omega, by omega⟩, ⟨by omega, by omega⟩, ?_⟩⟩
      · refine fin ((k : Int) + 1) s1 (by omega) (by omega) hfr ha (by rw [← hR]; exact hb) (by rw [← hR]; exact hc) (fun _ => ?_)
        rw [show (k : Int) + 1 - 1 = k by omega]
        exact r1 q
      · rw [w32_id (by omega) (by omega), show (k : Int) + 1 + -1 = k by omega, ev]
        refine ih _ (by omega) (Fr.up hfr (Or.inl (by decide))) (fun j hj => ?_) (fun j c0 c1 => ?_) (fun j c0 c1 => ?_)
        · rw [am_up_eq, if_neg (by omega)]; exact ha j (by omega)
        · rw [am_up_eq]
          by_cases e : j = (k : Int) + 1
          · rw [if_pos e, e, show (k : Int) + 1 - 1 = k by omega]
          · rw [if_neg e]; exact hb j (by omega) c1
        · by_cases e : j = k
          · rw [e]; exact r2 q
          · exact hc j (by omega) c1
/-- a line more, in the class's book -/
def newl (σ : AS) (k p w s g dy f t : Int) (ρ : AS) : Prop := Fr [8, 9, 10, 11, 12, 13, 14, 15, 16, 17, 18] [(7, 11)] σ ρ ∧ ρ 7 11 = σ 7 11 + 1 ∧ (ρ 8 = fu (σ 8) (σ 7 11) k ∧ ρ 9 = fu (σ 9) (σ 7 11) p ∧ ρ 10 = fu (σ 10) (σ 7 11) w ∧ ρ 11 = fu (σ 11) (σ 7 11) s ∧ ρ 12 = fu (σ 12) (σ 7 11) (bAnd g 1) ∧ ρ 13 = fu (σ 13) (σ 7 11) dy ∧ ρ 14 = fu (σ 14) (σ 7 11) f ∧ ρ 15 = fu (σ 15) (σ 7 11) t ∧ ρ 16 = fu (σ 16) (σ 7 11) (σ 1 10) ∧ ρ 17 = fu (σ 17) (σ 7 11) (-1)) ∧ SI ρ
theorem c_told {Ln : Int} {σ : AS} {k p w s g dy f t : Int} {P : Int → AS → Prop} (hS : SI σ) (hz : 0 ≤ σ 7 11 ∧ σ 7 11 < 100) (hP : ∀ ρ, newl σ k p w s g dy f t ρ → P (σ 7 11) ρ) :
    ∃ T : Option AV → AS → Prop, am_M Ln 999 17 [vR 7, vI k, vI p, vI w, vI s, vI g] σ T ∧ ∀ s7, T none s7 → ∃ T : Option AV → AS → Prop, am_M Ln 999 18 [vR 7, vI dy, vI f, vI t, vI (s7 1 10)] s7 T ∧ ∀ (r9 : Int) s8, T (some (vI r9)) s8 → am_rI P (some (vI r9)) s8 := by
  obtain ⟨z, hzz⟩ : ∃ z, z = σ 7 11 := ⟨_, rfl⟩
  unfold newl at hP
  obtain ⟨hp, hm⟩ := hS
  rw [← hzz] at hz hP hp hm
  obtain ⟨α, hα⟩ : ∃ α, α = am_up (am_up (am_up (am_up (am_up σ 8 z k) 9 z p) 10 z w) 11 z s) 12 z (bAnd g 1) := ⟨_, rfl⟩
  have fα : Fr [8, 9, 10, 11, 12] [] σ α := by rw [hα]; exact Fr.up (Fr.up (Fr.up (Fr.up (Fr.up Fr.rf (Or.inl (by decide))) (Or.inl (by decide))) (Or.inl (by decide))) (Or.inl (by decide))) (Or.inl (by decide))
  refine cV (P := fun s7 => s7 = α) ?_ ?_
  · refine vm_X3_begin _ _ _ _ _ _ ?_
    rw [← hzz]
    exact ⟨fun q => absurd q (by omega), fun _ => ⟨hz, hz, hz, hz, hz, hα.symm⟩⟩
  rintro s7 hs7
  rw [hs7]
  have a7 : α 7 11 = z := by rw [fα.fld 7 11 (by decide), hzz]
  have a1 : α 1 10 = σ 1 10 := fα.fld 1 10 (by decide)
  obtain ⟨β, hβ⟩ : ∃ β, β = am_up (am_up (am_up (am_up (am_up α 13 z dy) 14 z f) 15 z t) 16 z (σ 1 10)) 17 z (-1) := ⟨_, rfl⟩
  have fβ : Fr [13, 14, 15, 16, 17] [] α β := by rw [hβ]; exact Fr.up (Fr.up (Fr.up (Fr.up (Fr.up Fr.rf (Or.inl (by decide))) (Or.inl (by decide))) (Or.inl (by decide))) (Or.inl (by decide))) (Or.inl (by decide))
  have b13 : ∀ j, β 13 j = if j = z then dy else σ 13 j := fun j => by rw [hβ, am_up_ne (by decide), am_up_ne (by decide), am_up_ne (by decide), am_up_ne (by decide), am_up_eq, fα.cell 13 (by decide)]
  have b14 : ∀ j, β 14 j = if j = z then f else σ 14 j := fun j => by rw [hβ, am_up_ne (by decide), am_up_ne (by decide), am_up_ne (by decide), am_up_eq, am_up_ne (by decide), fα.cell 14 (by decide)]
  have b18 : β 18 = σ 18 := by rw [fβ.cell 18 (by decide), fα.cell 18 (by decide)]
  refine cI (P := P) ?_ (fun r s q => q)
  refine vm_X3_end _ _ _ _ _ ?_
  rw [a7, a1]
  refine ⟨fun _ => ⟨hz, hz, hz, hz, hz, ?_⟩, fun q => absurd hz.2 q⟩
  rw [← hβ]
  obtain ⟨R, hR⟩ : ∃ R : Nat, z = R := ⟨z.toNat, by omega⟩
  have hpβ : (rl z (β 18)).Pairwise (ahd β) := by
    rw [b18]
    rw [hR] at hp hm ⊢
    rw [rl_pw] at hp ⊢
    intro a b c0 c1 c2
    have h1 := (hm (σ 18 a)).mp (rl_mem.mpr ⟨a, c0, by omega, rfl⟩)
    have h2 := (hm (σ 18 b)).mp (rl_mem.mpr ⟨b, by omega, c2, rfl⟩)
    have h3 := hp a b c0 c1 c2
    unfold ahd at h3 ⊢
    rw [b13, b13, b14, b14, if_neg (by omega), if_neg (by omega), if_neg (by omega), if_neg (by omega)]
    exact h3
  have key := lp_sortIn (Ln := Ln) (d := 996) (σ1 := β) (z := z) hz hpβ (by rw [b18]; exact hm) R β (by omega) Fr.rf (fun _ _ => rfl) (fun j a b => by omega) (fun j a b => by omega)
  rw [← hR] at key
  refine cV (vm_X3_sortIn _ _ key) ?_
  rintro s1 ⟨y1, y2, y3⟩
  have e7 : s1 7 11 = z := by rw [y1.fld 7 11 (by decide), fβ.fld 7 11 (by decide), a7]
  rw [e7, w32_id (x := z + 1) (by omega) (by omega), w32_id (x := z + 1 - 1) (by omega) (by omega), show z + 1 - 1 = z by omega]
  obtain ⟨ρ, hρ⟩ : ∃ ρ, ρ = am_up s1 7 11 (z + 1) := ⟨_, rfl⟩
  rw [← hρ]
  have fρ : Fr [] [(7, 11)] s1 ρ := by rw [hρ]; exact Fr.up Fr.rf (Or.inr (by decide))
  have r7 : ρ 7 11 = z + 1 := by rw [hρ, am_up_eq, if_pos rfl]
  have up8 : ∀ c : Nat, c ≠ 7 → c ≠ 18 → ρ c = β c := fun c h1 h2 => by
    rw [hρ, am_up_ne h1]
    exact y1.cell c ⟨by simp; exact h2, by simp⟩
  have z8 : ∀ c ∈ [8, 9, 10, 11, 12], β c = α c := fun c hc => by
    simp only [List.mem_cons, List.not_mem_nil, or_false] at hc
    rw [hβ, am_up_ne (by omega), am_up_ne (by omega), am_up_ne (by omega), am_up_ne (by omega), am_up_ne (by omega)]
  refine hP ρ ⟨(fα.mo (by decide) (by decide)).tr ((fβ.mo (by decide) (by decide)).tr ((y1.mo (by decide) (by decide)).tr (fρ.mo (by decide) (by decide)))), r7, ⟨?_, ?_, ?_, ?_, ?_, ?_, ?_, ?_, ?_, ?_⟩, ?_⟩
  · rw [up8 8 (by decide) (by decide), z8 8 (by decide), hα, am_up_ne (by decide), am_up_ne (by decide), am_up_ne (by decide), am_up_ne (by decide), up_zc, zc_eq]
  · rw [up8 9 (by decide) (by decide), z8 9 (by decide), hα, am_up_ne (by decide), am_up_ne (by decide), am_up_ne (by decide), up_zc, zc_eq, am_up_ne (by decide)]
  · rw [up8 10 (by decide) (by decide), z8 10 (by decide), hα, am_up_ne (by decide), am_up_ne (by decide), up_zc, zc_eq, am_up_ne (by decide), am_up_ne (by decide)]
  · rw [up8 11 (by decide) (by decide), z8 11 (by decide), hα, am_up_ne (by decide), up_zc, zc_eq, am_up_ne (by decide), am_up_ne (by decide), am_up_ne (by decide)]
  · rw [up8 12 (by decide) (by decide), z8 12 (by decide), hα, up_zc, zc_eq, am_up_ne (by decide), am_up_ne (by decide), am_up_ne (by decide), am_up_ne (by decide)]
  · rw [up8 13 (by decide) (by decide)]; funext j; rw [b13]; rfl
  · rw [up8 14 (by decide) (by decide)]; funext j; rw [b14]; rfl
  · rw [up8 15 (by decide) (by decide), hβ, am_up_ne (by decide), am_up_ne (by decide), up_zc, zc_eq, am_up_ne (by decide), am_up_ne (by decide), fα.cell 15 (by decide)]
  · rw [up8 16 (by decide) (by decide), hβ, am_up_ne (by decide), up_zc, zc_eq, am_up_ne (by decide), am_up_ne (by decide), am_up_ne (by decide), fα.cell 16 (by decide)]
  · rw [up8 17 (by decide) (by decide), hβ, up_zc, zc_eq, am_up_ne (by decide), am_up_ne (by decide), am_up_ne (by decide), am_up_ne (by decide), fα.cell 17 (by decide)]
  · unfold SI ahd
    rw [r7, up8 13 (by decide) (by decide), up8 14 (by decide) (by decide)]
    rw [show ρ 18 = s1 18 by rw [hρ, am_up_ne (by decide)]]
    exact ⟨y2, y3⟩
