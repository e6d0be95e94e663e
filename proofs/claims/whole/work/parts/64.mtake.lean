/-! the model takes from parts -/
def mtake (σ : AS) (o s : Int) (σ' : AS) : Prop := Fr [118, 119] [(82, 54)] σ σ' ∧ mt σ' = lay (mt σ) o s ∧ 0 ≤ σ' 82 54 ∧ σ' 82 54 ≤ σ 82 54 + 1
theorem mtake_new {σ : AS} {o s : Int} (h0 : 0 ≤ σ 82 54) (hs : 0 < s) (hn : σ 82 54 ≤ 0 ∨ σ 118 (σ 82 54 - 1) ≠ o) : mtake σ o s (am_up (am_up (am_up σ 118 (σ 82 54) o) 119 (σ 82 54) s) 82 54 (σ 82 54 + 1)) := by
  obtain ⟨τ, hτ⟩ : ∃ τ, τ = am_up (am_up (am_up σ 118 (σ 82 54) o) 119 (σ 82 54) s) 82 54 (σ 82 54 + 1) := ⟨_, rfl⟩
  rw [← hτ]
  have r54 : τ 82 54 = σ 82 54 + 1 := by rw [hτ, am_up_eq, if_pos rfl]
  have r118 : ∀ x, τ 118 x = if x = σ 82 54 then o else σ 118 x := fun x => by rw [hτ, am_up_ne (by decide), am_up_ne (by decide), am_up_eq]
  have r119 : ∀ x, τ 119 x = if x = σ 82 54 then s else σ 119 x := fun x => by rw [hτ, am_up_ne (by decide), am_up_eq, am_up_ne (by decide)]
  refine ⟨by rw [hτ]; exact Fr.up (Fr.up (Fr.up Fr.rf (Or.inl (by decide))) (Or.inl (by decide))) (Or.inr (by decide)), ?_, by omega, by omega⟩
  unfold mt
  rw [r54, rl_succ _ h0, r118, r119, if_pos rfl, if_pos rfl, lay, if_neg (by omega)]
  have ec : rl (σ 82 54) (fun j => (τ 118 j, τ 119 j)) = rl (σ 82 54) (fun j => (σ 118 j, σ 119 j)) := rl_congr fun j x y => by rw [r118, r119, if_neg (by omega), if_neg (by omega)]
  rw [ec]
  by_cases hz : σ 82 54 ≤ 0
  · rw [rl_neg _ hz]; rfl
  · rw [rl_last (by omega), layR_app, if_neg (hn.resolve_left hz), List.append_assoc]
    rfl
theorem sp_mtakes {Ln : Int} {d : Nat} {σ : AS} {o s : Int} (h : 0 ≤ σ 82 54 ∧ σ 82 54 < 1500) (hs : 0 ≤ s ∧ s ≤ 1000000000) (hB : ∀ q ∈ mt σ, 0 ≤ q.2 ∧ q.2 + s ≤ 2000000000) : am_M Ln (d + 1) 183 [vR 82, vI o, vI s] σ (am_rV (mtake σ o s)) := by
  have e2 : w32 (σ 82 54 + 1) = σ 82 54 + 1 := w32_id (by omega) (by omega)
  refine vm_X12_takes _ _ _ ⟨fun h0 => ?_, fun h0 => ⟨fun h1 => ?_, fun h1 => ?_⟩⟩
  · exact ⟨Fr.rf, by rw [lay, if_pos (by omega)], by omega, by omega⟩
  · rw [e2]
    exact ⟨h, h, mtake_new h.1 (by omega) (Or.inl h1)⟩
  · rw [e2, w32_id (x := σ 82 54 - 1) (by omega) (by omega)]
    refine ⟨⟨by omega, by omega⟩, fun h2 => ⟨⟨by omega, by omega⟩, ⟨by omega, by omega⟩, ?_⟩, fun h2 => ⟨h, h, mtake_new h.1 (by omega) (Or.inr h2)⟩⟩
    have hmem : (σ 118 (σ 82 54 - 1), σ 119 (σ 82 54 - 1)) ∈ mt σ := rl_mem.mpr ⟨σ 82 54 - 1, by omega, by omega, rfl⟩
    have hle := hB _ hmem
    dsimp only at hle
    rw [w32_id (by omega) (by omega)]
    obtain ⟨τ, hτ⟩ : ∃ τ, τ = am_up σ 119 (σ 82 54 - 1) (σ 119 (σ 82 54 - 1) + s) := ⟨_, rfl⟩
    rw [← hτ]
    have r54 : τ 82 54 = σ 82 54 := by rw [hτ, am_up_ne (by decide)]
    have r118 : ∀ x, τ 118 x = σ 118 x := fun x => by rw [hτ, am_up_ne (by decide)]
    have r119 : ∀ x, τ 119 x = if x = σ 82 54 - 1 then σ 119 (σ 82 54 - 1) + s else σ 119 x := fun x => by rw [hτ, am_up_eq]
    refine ⟨by rw [hτ]; exact Fr.up Fr.rf (Or.inl (by decide)), ?_, by omega, by omega⟩
    unfold mt
    rw [r54, lay, if_neg (by omega), rl_last (n := σ 82 54) (by omega), rl_last (n := σ 82 54) (f := fun j => (σ 118 j, σ 119 j)) (by omega), layR_app, if_pos h2]
    congr 1
    · exact rl_congr fun j x y => by rw [r118, r119, if_neg (by omega)]
    · rw [r118, r119, if_pos rfl]
def mpart (σ : AS) (k w r : Int) (σ' : AS) : Prop := r = w - min w (σ 115 k) ∧ Fr [115, 118, 119] [(82, 54)] σ σ' ∧ σ' 115 = fu (σ 115) k (σ 115 k - min w (σ 115 k)) ∧ mt σ' = lay (mt σ) (σ 114 k) (min w (σ 115 k)) ∧ 0 ≤ σ' 82 54 ∧ σ' 82 54 ≤ σ 82 54 + 1
theorem sp_takesPart {Ln : Int} {d : Nat} {σ : AS} {k w : Int} (hk : 0 ≤ k ∧ k < 14000) (h : 0 ≤ σ 82 54 ∧ σ 82 54 < 1500) (hw : 0 ≤ w ∧ w ≤ 1000000000) (hm : 0 ≤ σ 115 k ∧ σ 115 k ≤ 1000000000) (hB : ∀ q ∈ mt σ, 0 ≤ q.2 ∧ q.2 + w ≤ 2000000000) :
    am_M Ln (d + 2) 184 [vR 82, vI k, vI w] σ (am_rI (mpart σ k w)) := by
  have fin : ∀ (b : Int) (s1 : AS), b = min w (σ 115 k) → mtake σ (σ 114 k) b s1 → mpart σ k w (w - b) (am_up s1 115 k (σ 115 k - b)) := by
    intro b s1 hb ⟨x1, x2, x3, x4⟩
    unfold mpart
    rw [← hb]
    have e54 : am_up s1 115 k (σ 115 k - b) 82 54 = s1 82 54 := by rw [am_up_ne (by decide)]
    refine ⟨rfl, Fr.up (x1.mo (by decide) (by decide)) (Or.inl (by decide)), ?_, ?_, by omega, by omega⟩
    · rw [up_zc, zc_eq, x1.cell 115 (by decide)]
    · rw [← x2]
      unfold mt
      rw [e54]
      exact rl_congr fun j _ _ => by rw [am_up_ne (by decide), am_up_ne (by decide)]
  refine vm_X12_takesPart _ _ _ ⟨hk, fun h1 => ⟨hk, cV (sp_mtakes h ⟨hw.1, hw.2⟩ hB) ?_⟩, fun h1 => ⟨hk, hk, cV (sp_mtakes h hm (fun q hq => by have := hB q hq; omega)) ?_⟩⟩
  · intro s1 hs
    refine ⟨hk, hk, ?_⟩
    rw [hs.1.cell 115 (by decide), w32_id (x := w - w) (by omega) (by omega), w32_id (x := σ 115 k - w) (by omega) (by omega)]
    exact fin w s1 (by omega) hs
  · intro s1 hs
    refine ⟨hk, hk, ?_⟩
    rw [hs.1.cell 115 (by decide), w32_id (x := w - σ 115 k) (by omega) (by omega), w32_id (x := σ 115 k - σ 115 k) (by omega) (by omega)]
    exact fin (σ 115 k) s1 (by omega) hs
/-- behind a pass over row p from place i -/
def mpass (f : Int → Bool) (σ : AS) (p i w r : Int) (σ' : AS) : Prop :=
  let x := gr f w (mdr σ p i)
  r = x.2.2 ∧ Fr [115, 118, 119] [(82, 54)] σ σ' ∧ mdr σ' p i = x.1 ∧ (∀ j : Int, (j < 1400 * p + i ∨ 1400 * p + σ 113 p ≤ j) → σ' 115 j = σ 115 j) ∧ mt σ' = layAll (mt σ) x.2.1 ∧ 0 ≤ σ' 82 54 ∧ σ' 82 54 ≤ σ 82 54 + nf f (mdr σ p i)
theorem lay_nn {l : MP} {o s : Int} (h : ∀ q ∈ l, 0 ≤ q.2) : ∀ q ∈ lay l o s, 0 ≤ q.2 := by
  unfold lay
  split
  · exact h
  · rename_i hs
    rcases List.eq_nil_or_concat l with e | ⟨a, q, e⟩
    · rw [e, layR_nil]
      intro x hx
      rw [List.mem_singleton.mp hx]
      show 0 ≤ s
      omega
    · rw [e, List.concat_eq_append] at h ⊢
      have h2 := h q (List.mem_append.mpr (Or.inr List.mem_cons_self))
      rw [layR_app]
      intro x hx
      rcases List.mem_append.mp hx with hx | hx
      · exact h x (List.mem_append.mpr (Or.inl hx))
      · split at hx
        · rw [List.mem_singleton.mp hx]; show 0 ≤ q.2 + s; omega
        · rcases List.mem_cons.mp hx with e | e
          · rw [e]; exact h2
          · rw [List.mem_singleton.mp e]; show 0 ≤ s; omega
theorem mdr_congr {σ σ' : AS} {p i : Int} (h1 : σ' 113 = σ 113) (h2 : σ' 114 = σ 114) (h3 : ∀ j : Int, 1400 * p + i ≤ j → j < 1400 * p + σ 113 p → σ' 115 j = σ 115 j) : mdr σ' p i = mdr σ p i := by
  unfold mdr
  rw [h1, h2]
  exact rl_congr fun j a b => by rw [h3 _ (by omega) (by omega)]
set_option maxHeartbeats 2000000 in
theorem lp_mtakesOf {Ln : Int} {d : Nat} {f : Int → Bool} {p o e : Int} (hp : 0 ≤ p ∧ p < 10) (hf : (e = 1 ∧ f = fI o) ∨ (e = 0 ∧ f = fN o)) : ∀ (m : Nat) (σ : AS) (i w : Int), (0 ≤ σ 113 p ∧ σ 113 p ≤ 1390) → (∀ q ∈ mdr σ p i, 0 ≤ q.2 ∧ q.2 ≤ 1000000000) → (0 ≤ w ∧ w ≤ 1000000000) →
    (∀ q ∈ mt σ, 0 ≤ q.2) → psum (mt σ) + w ≤ 2000000000 → (0 ≤ σ 82 54 ∧ σ 82 54 + nf f (mdr σ p i) ≤ 1500) → 0 ≤ i → (σ 113 p - i).toNat = m →
    am_E Ln (d + 2) 185 11 [vR 82, vI p, vI o, vI e, vU, vI w, vI (1400 * p + i)] [] σ (am_rI (mpass f σ p i w)) := by
  intro m
  induction m with
  | zero =>
    intro σ i w hr hq hw hmn hms ht hi hm
    refine vl_X12_takesOf_11 _ _ _ _ _ _ ⟨hp, fun _ => ?_, fun h => absurd ?_ h⟩
    · show mpass f σ p i w w σ
      unfold mpass
      rw [mdr_nil (by omega)]
      refine ⟨rfl, Fr.rf, rfl, fun j _ => rfl, rfl, ht.1, ?_⟩
      have := nf_nn (f := f) (l := [])
      omega
    · rw [w32_id (x := 1400 * p) (by omega) (by omega), w32_id (by omega) (by omega)]; omega
  | succ m ih =>
    intro σ i w hr hq hw hmn hms ht hi hm
    have hlt : i < σ 113 p := by omega
    rw [mdr_cons hlt] at hq ht
    rw [nf_cons] at ht
    have q0 : 0 ≤ σ 115 (1400 * p + i) ∧ σ 115 (1400 * p + i) ≤ 1000000000 := hq _ List.mem_cons_self
    have qr : ∀ q ∈ mdr σ p (i + 1), 0 ≤ q.2 ∧ q.2 ≤ 1000000000 := fun x hx => hq x (List.mem_cons_of_mem _ hx)
    have nn1 := nf_nn (f := f) (l := mdr σ p (i + 1))
    have ew : w32 (1400 * p + i + 1) = 1400 * p + (i + 1) := by rw [w32_id (by omega) (by omega)]; omega
    have call : f (σ 114 (1400 * p + i)) = true → ∃ T : Option AV → AS → Prop, am_M Ln (d + 2) 184 [vR 82, vI (1400 * p + i), vI w] σ T ∧ ∀ (r2 : Int) s1, T (some (vI r2)) s1 →
        am_E Ln (d + 2) 185 11 [vR 82, vI p, vI o, vI e, vU, vI r2, vI (w32 (1400 * p + i + 1))] [] s1 (am_rI (mpass f σ p i w)) := by
      intro hft
      rw [if_pos hft] at ht
      refine cI (sp_takesPart ⟨by omega, by omega⟩ ⟨ht.1, by omega⟩ hw q0 (fun q h => ⟨hmn q h, by have := psum_mem hmn q h; omega⟩)) ?_
      rintro r s1 ⟨x1, x2, x3, x4, x5, x6⟩
      have e113 : s1 113 = σ 113 := x2.cell 113 (by decide)
      have e114 : s1 114 = σ 114 := x2.cell 114 (by decide)
      have ed : mdr s1 p (i + 1) = mdr σ p (i + 1) := mdr_congr e113 e114 (fun j a b => by rw [x3, fu_ne (by omega)])
      rw [ew]
      have hps : psum (mt s1) = psum (mt σ) + min w (σ 115 (1400 * p + i)) := by rw [x4]; exact lay_psum (by omega)
      refine am_EI (ih s1 (i + 1) r (by rw [e113]; exact hr) (by rw [ed]; exact qr) ⟨by omega, by omega⟩ (by rw [x4]; exact lay_nn hmn) (by omega) (by rw [ed]; omega) (by omega) (by rw [e113]; omega)) ?_
      rintro r' s' ⟨y1, y2, y3, y4, y5, y6, y7⟩
      rw [ed] at y1 y3 y5 y7
      have z113 : s' 113 = σ 113 := by rw [y2.cell 113 (by decide), e113]
      have z114 : s' 114 = σ 114 := by rw [y2.cell 114 (by decide), e114]
      have z0 : s' 115 (1400 * p + i) = σ 115 (1400 * p + i) - min w (σ 115 (1400 * p + i)) := by
        rw [y4 _ (Or.inl (by omega)), x3, fu_eq]
      unfold mpass
      rw [mdr_cons hlt, gr_c, if_pos hft, nf_cons, if_pos hft]
      rw [x1] at y1 y3 y5
      dsimp only
      refine ⟨y1, (x2.mo (by decide) (by decide)).tr y2, ?_, fun j hj => ?_, ?_, y6, by omega⟩
      · rw [mdr_cons (by rw [z113]; exact hlt), z114, z0, y3]
      · rw [y4 j (by rw [e113]; omega), x3, fu_ne (by omega)]
      · rw [y5, x4]
        by_cases hb : 0 < min w (σ 115 (1400 * p + i))
        · rw [if_pos hb, layAll_cons]
        · rw [if_neg hb, lay, if_pos (by omega)]
    have skip : f (σ 114 (1400 * p + i)) = false → am_E Ln (d + 2) 185 11 [vR 82, vI p, vI o, vI e, vU, vI w, vI (w32 (1400 * p + i + 1))] [] σ (am_rI (mpass f σ p i w)) := by
      intro hft
      rw [if_neg (by rw [hft]; decide)] at ht
      rw [ew]
      refine am_EI (ih σ (i + 1) w hr qr hw hmn hms (by omega) (by omega) (by omega)) ?_
      rintro r' s' ⟨y1, y2, y3, y4, y5, y6, y7⟩
      have z113 : s' 113 = σ 113 := by rw [y2.cell 113 (by decide)]
      have z114 : s' 114 = σ 114 := by rw [y2.cell 114 (by decide)]
      unfold mpass
      rw [mdr_cons hlt, gr_c, if_neg (by rw [hft]; decide), nf_cons, if_neg (by rw [hft]; decide)]
      dsimp only
      refine ⟨y1, y2, ?_, fun j hj => y4 j (by omega), y5, y6, by omega⟩
      rw [mdr_cons (by rw [z113]; exact hlt), z114, y4 _ (Or.inl (by omega)), y3]
    refine vl_X12_takesOf_11 _ _ _ _ _ _ ⟨hp, fun h => absurd h ?_, fun _ => ⟨⟨by omega, by omega⟩, ?_⟩⟩
    · rw [w32_id (x := 1400 * p) (by omega) (by omega), w32_id (by omega) (by omega)]; omega
    · rcases hf with ⟨he, hf⟩ | ⟨he, hf⟩
      · refine ⟨fun h => ⟨fun _ => call (by rw [hf, fI, decide_eq_true h]), fun q => absurd he.symm q⟩, fun h => ⟨fun q => absurd q (by omega), fun _ => skip (by rw [hf, fI, decide_eq_false h])⟩⟩
      · refine ⟨fun h => ⟨fun q => absurd q (by omega), fun _ => skip (by rw [hf, fN, decide_eq_true h]; rfl)⟩, fun h => ⟨fun _ => call (by rw [hf, fN, decide_eq_false h]; rfl), fun q => absurd he.symm q⟩⟩
/-- taken from row p, and from no other -/
def mtk (σ : AS) (p : Int) (l' t : MP) (n : Int) (σ' : AS) : Prop := Fr [115, 118, 119] [(82, 54)] σ σ' ∧ mp σ' p = l' ∧ (∀ p' : Int, 0 ≤ p' → p' < 10 → p' ≠ p → mp σ' p' = mp σ p') ∧ mt σ' = layAll (mt σ) t ∧ 0 ≤ σ' 82 54 ∧ σ' 82 54 ≤ σ 82 54 + n
theorem mp_other {σ σ' : AS} {p' : Int} (h1 : σ' 113 = σ 113) (h2 : σ' 114 = σ 114) (h3 : ∀ j : Int, 1400 * p' ≤ j → j < 1400 * p' + σ 113 p' → σ' 115 j = σ 115 j) : mp σ' p' = mp σ p' := by
  rw [← mdr_0, ← mdr_0]
  exact mdr_congr h1 h2 (fun j a b => h3 j (by omega) b)
theorem sp_mtakesOf {Ln : Int} {d : Nat} {f : Int → Bool} {σ : AS} {p o e w : Int} (hp : 0 ≤ p ∧ p < 10) (hf : (e = 1 ∧ f = fI o) ∨ (e = 0 ∧ f = fN o)) (hT : MT σ) (hw : 0 ≤ w ∧ w ≤ 1000000000) (hmn : ∀ q ∈ mt σ, 0 ≤ q.2) (hms : psum (mt σ) + w ≤ 2000000000) (ht : 0 ≤ σ 82 54 ∧ σ 82 54 + nf f (mp σ p) ≤ 1500) :
    am_M Ln (d + 3) 185 [vR 82, vI p, vI o, vI e, vI w] σ (am_rI fun r σ' => r = (gr f w (mp σ p)).2.2 ∧ mtk σ p (gr f w (mp σ p)).1 (gr f w (mp σ p)).2.1 (nf f (mp σ p)) σ') := by
  obtain ⟨h1, h2, h3⟩ := hT p hp.1 hp.2
  have hnn : ∀ q ∈ mp σ p, 0 ≤ q.2 := fun q hq => (h2 q hq).2
  refine vm_X12_takesOf _ _ _ _ _ ?_
  have ee : w32 (1400 * p) = 1400 * p + 0 := by rw [w32_id (by omega) (by omega)]; omega
  rw [ee]
  refine am_EI (lp_mtakesOf hp hf _ σ 0 w h1 (by rw [mdr_0]; exact fun q hq => ⟨hnn q hq, by have := psum_mem hnn q hq; omega⟩) hw hmn hms (by rw [mdr_0]; exact ht) (by omega) rfl) ?_
  rintro r s ⟨x1, x2, x3, x4, x5, x6, x7⟩
  rw [mdr_0] at x1 x3 x5 x7
  rw [mdr_0] at x3
  refine ⟨x1, x2.mo (by decide) (by decide), x3, fun p' a b hne => ?_, x5, x6, x7⟩
  have := (hT p' a b).1
  exact mp_other (x2.cell 113 (by decide)) (x2.cell 114 (by decide)) (fun j u v => x4 j (by omega))
