/-! selling, as a whole -/
theorem sm_fu {f : Int → Int} {h v : Int} : ∀ {n : Nat}, 0 ≤ h → h < n → sm (fu f h v) n = sm f n - f h + v
  | 0, _, b => absurd b (by omega)
  | n + 1, a, b => by
    rw [sm, sm]
    by_cases e : h = n
    · have e1 : sm (fu f h v) n = sm f n := sm_congr (fun i x y => fu_ne (by omega))
      rw [e1, e, fu_eq]
      omega
    · rw [sm_fu a (by omega), fu_ne (fun q => e q.symm)]
      omega
/-- what comes to each of ten when a thing is sold -/
theorem gai_bd {ri s h : Int} {w : Int → Int} (hs : 0 ≤ s) (hh : 0 ≤ h ∧ h < 10) (hw : ∀ i : Int, 0 ≤ i → i < (10 : Nat) → 0 ≤ w i) : sm (gaiF ri s h w) 10 ≤ s ∧ ∀ i : Int, 0 ≤ i → i < (10 : Nat) → 0 ≤ gaiF ri s h w i := by
  by_cases hc : ri ≠ 0 ∧ 0 < sm w 10
  · have e : ∀ x, gaiF ri s h w x = pq s w 10 x := fun x => by rw [gaiF, if_pos hc]
    have := pq_tot hs hc.2 hw
    rw [sm_congr (fun i _ _ => e i)]
    exact ⟨this.1, fun i a b => by rw [e]; exact this.2 i a b⟩
  · obtain ⟨w', hw'⟩ : ∃ w', w' = fu w h 0 := ⟨_, rfl⟩
    have w0 : ∀ i : Int, 0 ≤ i → i < (10 : Nat) → 0 ≤ w' i := fun i a b => by
      rw [hw']
      unfold fu
      split
      · omega
      · exact hw i a b
    have e : ∀ x, gaiF ri s h w x = fu (fun x => if sm w' 10 = 0 then 0 else pq (min s (sm w 10 - w h)) w' 10 x) h (max 0 (s - (sm w 10 - w h))) x := fun x => by
      rw [gaiF, if_neg hc, ← hw']; rfl
    have es : sm w' 10 = sm w 10 - w h := by rw [hw', sm_fu (n := 10) hh.1 (by omega)]; omega
    have h0 := sm_nn w0
    have hwh : w' h = 0 := by rw [hw', fu_eq]
    obtain ⟨f, hf⟩ : ∃ f : Int → Int, f = fun x => if sm w' 10 = 0 then 0 else pq (min s (sm w 10 - w h)) w' 10 x := ⟨_, rfl⟩
    rw [← hf] at e
    have fb : sm f 10 ≤ min s (sm w 10 - w h) ∧ (∀ i : Int, 0 ≤ i → i < (10 : Nat) → 0 ≤ f i) ∧ f h = 0 := by
      by_cases hz : sm w' 10 = 0
      · have ef : ∀ x, f x = 0 := fun x => by rw [hf]; dsimp only; rw [if_pos hz]
        rw [sm_zero (fun i _ _ => ef i)]
        exact ⟨by omega, fun i _ _ => by rw [ef]; omega, ef h⟩
      · have ef : ∀ x, f x = pq (min s (sm w 10 - w h)) w' 10 x := fun x => by rw [hf]; dsimp only; rw [if_neg hz]
        have := pq_tot (s := min s (sm w 10 - w h)) (by omega) (by omega) w0
        rw [sm_congr (fun i _ _ => ef i)]
        refine ⟨this.1, fun i a b => by rw [ef]; exact this.2 i a b, ?_⟩
        rw [ef, pq, hwh, Int.mul_zero, Int.zero_ediv, if_neg (by omega)]
        rfl
    rw [sm_congr (fun i _ _ => e i), sm_fu (n := 10) hh.1 (by omega), fb.2.2]
    refine ⟨by omega, fun i a b => ?_⟩
    rw [e]
    unfold fu
    split
    · omega
    · exact fb.2.1 i a b
def xsold (σ : AS) (p a : Int) (g : Int → Int) (σ' : AS) : Prop := XW σ' ∧ Fr [42, 43, 44, 45, 46, 50, 67, 68] [(41, 3)] σ σ' ∧ (∀ p' : Int, 0 ≤ p' → p' < 10 → xp σ' p' = if p' = p then layAll (xp σ p) (rl 10 (fun x => (x, g x))) else xp σ p') ∧
  (∀ c : Int, 0 ≤ c → c < 100 → σ' 46 c = if 10 * a ≤ c ∧ c < 10 * a + 10 then 0 else σ 46 c) ∧ ∀ o : Int, 0 ≤ o → o < 10 → σ' 50 o = g o
theorem sp_sell {Ln : Int} {d : Nat} {σ : AS} {p a s : Int} (hw : XW σ) (hz : σ 41 3 ≤ 1000) (hp : 0 ≤ p ∧ p < 10) (hh : 0 ≤ σ 5 p ∧ σ 5 p < 10) (ha : 0 ≤ a ∧ a < 10) (hs : 1 ≤ s ∧ s ≤ 1000000) (hps : psum (xp σ p) ≤ 100000000)
    (hb : ∀ c : Int, 0 ≤ c → c < 100 → 0 ≤ σ 46 c ∧ σ 46 c ≤ 100000000) (hg : ∀ o : Int, 0 ≤ o → o < 10 → σ 50 o = 0) :
    am_M Ln (d + 3) 43 [vR 40, vI p, vI a, vI s] σ (am_rV (xsold σ p a (gaiF (σ 40 11) s (σ 5 p) (fun x => σ 46 (10 * a + x))))) := by
  obtain ⟨w, hwd⟩ : ∃ w : Int → Int, w = fun x => σ 46 (10 * a + x) := ⟨_, rfl⟩
  have hw0 : ∀ i : Int, 0 ≤ i → i < (10 : Nat) → 0 ≤ w i ∧ w i ≤ 100000000 := fun i x y => by rw [hwd]; exact hb _ (by omega) (by omega)
  have hwn : ∀ i : Int, 0 ≤ i → i < (10 : Nat) → 0 ≤ w i := fun i x y => (hw0 i x y).1
  have hsmb : ∀ k : Nat, k ≤ 10 → 0 ≤ sm w k ∧ sm w k ≤ 100000000 * k := by
    intro k
    induction k with
    | zero => intro _; exact ⟨Int.le_refl 0, Int.le_refl 0⟩
    | succ k ih => intro hk; have := ih (by omega); have h2 := hw0 k (by omega) (by omega); rw [sm]; omega
  have hsm := hsmb 10 (by omega)
  have hbd := gai_bd (ri := σ 40 11) (s := s) (h := σ 5 p) (w := w) (by omega) hh hwn
  have hwh := hw0 _ hh.1 (by omega : σ 5 p < (10 : Nat))
  have hoh := sm_one hwn hh.1 (by omega : σ 5 p < (10 : Nat))
  rw [← hwd]
  obtain ⟨g, hgd⟩ : ∃ g : Int → Int, g = gaiF (σ 40 11) s (σ 5 p) w := ⟨_, rfl⟩
  rw [← hgd] at hbd ⊢
  have hpn := psum_nn (pok_nn (xp_ok hw p))
  refine vm_X6_sell _ _ _ _ ⟨hp, cI (sp_shareOf ha (Or.inl rfl) hb) ?_⟩
  rintro r s1 ⟨rfl, rfl⟩
  have e1 : sm (fun x => if (-1 : Int) = -1 ∨ -1 = x then s1 46 (10 * a + x) else 0) 10 = sm w 10 := sm_congr (fun i _ _ => by rw [if_pos (Or.inl rfl), hwd])
  rw [e1]
  obtain ⟨τ, hτ⟩ : ∃ τ, τ = zc (zc s1 46 (clK (s1 46) (10 * a) 10)) 67 (wtK (s1 46) (s1 67) (10 * a) 10) := ⟨_, rfl⟩
  have eτ : ∀ c : Nat, c ≠ 46 → c ≠ 67 → τ c = s1 c := fun c h1 h2 => by rw [hτ, zc_ne h2, zc_ne h1]
  have t67 : ∀ o : Int, 0 ≤ o → o < 10 → τ 67 o = w o := fun o x y => by rw [hτ, zc_eq, wtK, if_pos ⟨x, y⟩, hwd]
  have t46 : ∀ c : Int, 0 ≤ c → c < 100 → τ 46 c = if 10 * a ≤ c ∧ c < 10 * a + 10 then 0 else s1 46 c := fun c _ _ => by rw [hτ, zc_ne (by decide), zc_eq]; rfl
  have fτ : Fr [42, 43, 44, 45, 46, 50, 67, 68] [(41, 3)] s1 τ := by rw [hτ]; exact Fr.cl (Fr.cl Fr.rf (by decide)) (by decide)
  -- behind the portions
  have fin : ∀ ρ : AS, Fr [67, 68] [] τ ρ → (∀ o : Int, 0 ≤ o → o < 10 → ρ 68 o = g o) → am_E Ln (d + 2) 43 158 [vR 40, vI p, vU, vU, vU, vU, vU, vI 0] [] ρ (am_rV (xsold s1 p a g)) := by
    intro ρ f1 f2
    have e : ∀ c : Nat, c ≠ 46 → c ≠ 67 → c ≠ 68 → ρ c = s1 c := fun c h1 h2 h3 => by rw [f1.cell c (by simp [h2, h3])]; exact eτ c h1 h2
    have exp' : ∀ p', xp ρ p' = xp s1 p' := fun p' => by unfold xp xl; rw [e 41 (by decide) (by decide) (by decide), e 42 (by decide) (by decide) (by decide), e 43 (by decide) (by decide) (by decide), e 44 (by decide) (by decide) (by decide)]
    have hwρ : XW ρ := by unfold XW; rw [e 41 (by decide) (by decide) (by decide), e 42 (by decide) (by decide) (by decide), e 43 (by decide) (by decide) (by decide), e 44 (by decide) (by decide) (by decide), e 45 (by decide) (by decide) (by decide)]; exact hw
    have key := lp_gain (Ln := Ln) (d := d) (σ0 := ρ) (p := p) (g := g) hp (by rw [e 41 (by decide) (by decide) (by decide)]; exact hz) (fun o x y => ⟨f2 o x y, hbd.2 o x (by omega), by have := sm_one hbd.2 x (by omega : o < (10 : Nat)); omega⟩) (by rw [exp']; omega) 10 0 ρ rfl ⟨hwρ, Fr.rf, fun p' x y => (show xp ρ p' = if p' = p then xp ρ p else xp ρ p' by by_cases q : p' = p <;> simp [q]), by omega, fun o x y => by rw [if_neg (by omega), e 50 (by decide) (by decide) (by decide)]; exact hg o x y⟩
    refine am_EV key ?_
    rintro s2 ⟨y1, y2, y3, y4, y5⟩
    refine ⟨y1, (fτ.tr (f1.mo (by decide) (by decide))).tr (y2.mo (by decide) (by decide)), fun p' x y => ?_, fun c x y => ?_, fun o x y => ?_⟩
    · rw [y3 p' x y, exp', exp']
    · rw [y2.cell 46 (by decide), f1.cell 46 (by decide)]; exact t46 c x y
    · rw [y5 o x y, if_pos y]
  have nri : τ 40 11 = s1 40 11 := by rw [eτ 40 (by decide) (by decide)]
  have partA : ¬ (s1 40 11 ≠ 0 ∧ 0 < sm w 10) → (0 ≤ s1 5 p ∧ s1 5 p < 10) ∧ (∃ T : Option AV → AS → Prop, am_M Ln (d + 2) 133 [vI (min s (w32 (sm w 10 - (τ 67 (s1 5 p))))), vR 67, vR 68] (am_up τ 67 (s1 5 p) 0) T ∧ ∀ s2, T none s2 →
      (0 ≤ s1 5 p ∧ s1 5 p < 10) ∧ (am_E Ln (d + 2) 43 158 [vR 40, vI p, vU, vU, vU, vU, vU, vI 0] [] (am_up s2 68 (s1 5 p) (max (0 : Int) (w32 (s - (w32 (sm w 10 - (τ 67 (s1 5 p)))))))) (am_rV (xsold s1 p a g)))) := by
    intro hc
    rw [t67 _ hh.1 hh.2, w32_id (x := sm w 10 - w (s1 5 p)) (by omega) (by omega), w32_id (x := s - (sm w 10 - w (s1 5 p))) (by omega) (by omega)]
    have u67 : ∀ o : Int, 0 ≤ o → o < (10 : Nat) → am_up τ 67 (s1 5 p) 0 67 o = fu w (s1 5 p) 0 o := fun o x y => by
      rw [am_up_eq, fu_app]
      split
      · rfl
      · exact t67 o x (by omega)
    refine ⟨hh, cV (sp_portion_b _ _ (by omega) (by omega) (fun i x y => ?_) (fun i x y => ?_)) ?_⟩
    · rw [u67 i x y, fu_app]; split; · omega
      · exact (hw0 i x y).1
    · rw [u67 i x y, fu_app]; split; · omega
      · have := (hw0 i x y).2; omega
    · rintro s2 ⟨f, rfl, hf⟩
      refine ⟨hh, fin _ (Fr.up (Fr.cl (Fr.up Fr.rf (Or.inl (by decide))) (by decide)) (Or.inl (by decide))) (fun o x y => ?_)⟩
      rw [am_up_eq, zc_eq, hgd, gaiF, if_neg hc]
      by_cases e : o = s1 5 p
      · rw [if_pos e, if_pos e]
      · rw [if_neg e, if_neg e, hf o x (by omega), sm_congr u67]
        by_cases e2 : sm (fu w (s1 5 p) 0) 10 = 0
        · rw [if_pos e2, if_pos e2]
        · rw [if_neg e2, if_neg e2]; exact pq_congr u67 x (by omega)
  have key := lp_weights (Ln := Ln) (d := d + 2) (σ := s1) (p := p) (a := a) (s := s) (h := s1 5 p) (all := sm w 10) (T := xsold s1 p a g) ha ?_ 10 0 rfl
  · have e0 : zc (zc s1 46 (clK (s1 46) (10 * a) ((0 : Nat) : Int))) 67 (wtK (s1 46) (s1 67) (10 * a) ((0 : Nat) : Int)) = s1 := by
      have h1 : clK (s1 46) (10 * a) ((0 : Nat) : Int) = s1 46 := by funext c; unfold clK; rw [if_neg (by omega)]
      have h2 : wtK (s1 46) (s1 67) (10 * a) ((0 : Nat) : Int) = s1 67 := by funext c; unfold wtK; rw [if_neg (by omega)]
      rw [h1, h2, zc_self, zc_self]
    rw [e0] at key
    exact key
  · rw [← hτ]
    refine vl_X6_sell_25 _ _ _ _ _ _ _ ⟨fun _ => ⟨hh, fun h1 => ?_, fun h1 => ⟨fun h2 => ?_, fun h2 => ?_⟩⟩, fun h => absurd (by omega) h⟩
    · rw [nri] at h1
      exact partA (fun q => q.1 h1)
    · exact partA (fun q => by omega)
    · rw [nri] at h1
      have hc : s1 40 11 ≠ 0 ∧ 0 < sm w 10 := ⟨h1, by omega⟩
      refine cV (sp_portion_b τ s (by omega) (by omega) (fun i x y => ?_) (fun i x y => ?_)) ?_
      · rw [t67 i x (by omega)]; exact (hw0 i x y).1
      · rw [t67 i x (by omega)]; have := (hw0 i x y).2; omega
      · rintro s2 ⟨f, rfl, hf⟩
        have u67 : ∀ o : Int, 0 ≤ o → o < (10 : Nat) → τ 67 o = w o := fun o x y => t67 o x (by omega)
        refine fin _ (Fr.cl Fr.rf (by decide)) (fun o x y => ?_)
        rw [zc_eq, hf o x (by omega), sm_congr u67, if_neg (by omega), hgd, gaiF, if_pos hc]
        exact pq_congr u67 x (by omega)
