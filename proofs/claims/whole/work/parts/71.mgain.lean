/-! what comes of selling, in the model -/
section GAI
variable {ri s h : Int} {w : Int → Int} {n : Nat}
theorem pq_full {n : Nat} {w : Int → Int} {x : Int} (ha : 0 < sm w n) : pq (sm w n) w n x = w x := by
  have e : sm (fun j => sm w n * w j / sm w n) n = sm w n := sm_congr (fun j _ _ => Int.mul_ediv_cancel_left _ (by omega))
  rw [pq, e, Int.mul_ediv_cancel_left _ (by omega), if_neg, Int.add_zero]
  rintro ⟨-, q⟩
  have := (cp_bd (w := w) x.toNat).1
  omega
theorem sm_eq0 {f : Int → Int} {n : Nat} (hf : ∀ i : Int, 0 ≤ i → i < n → 0 ≤ f i) (h0 : sm f n = 0) : ∀ i : Int, 0 ≤ i → i < n → f i = 0 := by
  intro i a b
  have h1 := sm_one hf a b
  have h2 := hf i a b
  omega
theorem gai_a (hs : 0 ≤ s) (hh : 0 ≤ h ∧ h < n) (hn : n ≤ 10) (hw : ∀ i : Int, 0 ≤ i → i < n → 0 ≤ w i) (h0 : ∀ i : Int, n ≤ i → i < (10 : Nat) → w i = 0) (ha : sm w n = 0) (x : Int) : gaiF ri s h w x = if x = h then s else 0 := by
  have e10 : sm w 10 = 0 := by rw [sm_short hn h0, ha]
  have ewh : w h = 0 := sm_eq0 hw ha h hh.1 hh.2
  have e2 : sm (fu w h 0) 10 = 0 := by rw [sm_fu (n := 10) hh.1 (by omega), e10, ewh]; rfl
  rw [gaiF, if_neg (by rw [e10]; omega), e10, ewh, e2]
  split
  · omega
  · rw [if_pos rfl]
theorem gai_b (hn : n ≤ 10) (h0 : ∀ i : Int, n ≤ i → i < (10 : Nat) → w i = 0) (ha : 0 < sm w n) (hr : ri ≠ 0) (x : Int) : gaiF ri s h w x = pq s w n x := by
  have e10 : sm w 10 = sm w n := sm_short hn h0
  rw [gaiF, if_pos ⟨hr, by omega⟩, pq_short hn h0]
theorem gai_c (hh : 0 ≤ h ∧ h < n) (hn : n ≤ 10) (h0 : ∀ i : Int, n ≤ i → i < (10 : Nat) → w i = 0) (hs : 0 ≤ s) (hr : ri = 0) (hlt : s < sm w n - w h) (x : Int) : gaiF ri s h w x = pq s (fu w h 0) n x := by
  have e10 : sm w 10 = sm w n := sm_short hn h0
  have e2 : sm (fu w h 0) 10 = sm w n - w h := by rw [sm_fu (n := 10) hh.1 (by omega), e10]; omega
  have h0' : ∀ i : Int, n ≤ i → i < (10 : Nat) → fu w h 0 i = 0 := fun i a b => by rw [fu_ne (by omega)]; exact h0 i a b
  rw [gaiF, if_neg (fun q => q.1 hr), e10, e2]
  by_cases e : x = h
  · rw [if_pos e, e, pq_zero (by rw [fu_eq])]; omega
  · rw [if_neg e, if_neg (by omega), show min s (sm w n - w h) = s by omega, pq_short hn h0']
theorem gai_d (hh : 0 ≤ h ∧ h < n) (hn : n ≤ 10) (hw : ∀ i : Int, 0 ≤ i → i < n → 0 ≤ w i) (h0 : ∀ i : Int, n ≤ i → i < (10 : Nat) → w i = 0) (hr : ri = 0) (hlt : sm w n - w h ≤ s) (x : Int) (hx : 0 ≤ x ∧ x < 10) : gaiF ri s h w x = if x = h then s - (sm w n - w h) else w x := by
  have e10 : sm w 10 = sm w n := sm_short hn h0
  have e2 : sm (fu w h 0) 10 = sm w n - w h := by rw [sm_fu (n := 10) hh.1 (by omega), e10]; omega
  have hw' : ∀ i : Int, 0 ≤ i → i < (10 : Nat) → 0 ≤ fu w h 0 i := fun i a b => by
    unfold fu
    split
    · omega
    · by_cases e : i < n
      · exact hw i a e
      · rw [h0 i (by omega) b]; omega
  rw [gaiF, if_neg (fun q => q.1 hr), e10, e2]
  by_cases e : x = h
  · rw [if_pos e, if_pos e]; omega
  · rw [if_neg e, if_neg e]
    by_cases e3 : sm w n - w h = 0
    · rw [if_pos e3]
      have := sm_eq0 hw' (by rw [e2]; exact e3) x hx.1 (by omega)
      rw [fu_ne e] at this
      omega
    · have h1 := sm_nn hw'
      rw [if_neg e3, show min s (sm w n - w h) = sm (fu w h 0) 10 by omega, pq_full (by omega), fu_ne e]
theorem gai_z (hh : 0 ≤ h ∧ h < n) (hn : n ≤ 10) (hw : ∀ i : Int, 0 ≤ i → i < n → 0 ≤ w i) (h0 : ∀ i : Int, n ≤ i → i < (10 : Nat) → w i = 0) (x : Int) (hx : n ≤ x ∧ x < 10) : gaiF ri s h w x = 0 := by
  have ewx := h0 x hx.1 (by omega)
  rw [gaiF]
  split
  · exact pq_zero ewx
  · rw [if_neg (by omega)]
    split
    · rfl
    · exact pq_zero (by rw [fu_ne (by omega)]; exact ewx)
end GAI
theorem layAll_short {l : MP} {g : Int → Int} {n : Nat} (h : ∀ x : Int, n ≤ x → x < 10 → g x = 0) (hn : n ≤ 10) : layAll l (rl 10 (fun x => (x, g x))) = layAll l (rl n (fun x => (x, g x))) := by
  rw [rl_split (fun x => (x, g x)) (by omega : (0 : Int) ≤ n) (by omega), layAll_app]
  have : ∀ (k : Nat) (f : Int → Int), (∀ x : Int, 0 ≤ x → x < k → g (f x) = 0) → ∀ a : MP, layAll a (rl k (fun x => (f x, g (f x)))) = a := by
    intro k f hf a
    induction k with
    | zero => rfl
    | succ k ih =>
      rw [show ((k + 1 : Nat) : Int) = (k : Int) + 1 by omega, rl_succ _ (by omega), layAll_app, ih (fun x u v => hf x u (by omega))]
      show lay a (f k) (g (f k)) = a
      rw [hf k (by omega) (by omega), lay, if_pos (by omega)]
  have h2 := this (10 - n) (fun x => n + x) (fun x u v => h _ (by omega) (by omega)) (layAll l (rl n (fun x => (x, g x))))
  rw [show ((10 - n : Nat) : Int) = 10 - (n : Int) by omega] at h2
  exact h2
def mgain (σ0 : AS) (p k : Int) (g : Int → Int) (j : Int) (σ : AS) : Prop := Fr [113, 114, 115, 116] [] σ0 σ ∧ (∀ p' : Int, 0 ≤ p' → p' < 10 → mp σ p' = if p' = p then layAll (mp σ0 p) (rl j (fun x => (x, g x))) else mp σ0 p') ∧ (∀ p' : Int, 0 ≤ p' → p' < 10 → 0 ≤ σ 113 p' ∧ σ 113 p' ≤ σ0 113 p' + j) ∧
  ∀ c : Int, σ 116 c = if 10 * k ≤ c ∧ c < 10 * k + j then 0 else σ0 116 c
theorem lp_mgain {Ln : Int} {d : Nat} {σ0 : AS} {i p k : Int} {g : Int → Int} {n : Nat} (hi : 0 ≤ i ∧ i < 100) (hp : 0 ≤ p ∧ p < 10) (hk : 0 ≤ k ∧ k < 10) (hn : σ0 82 3 = n) (hn2 : n ≤ 10) (h87 : σ0 87 i = p) (hg : ∀ x : Int, 0 ≤ x → x < n → σ0 125 x = g x ∧ 0 ≤ g x) (hgs : sm g n ≤ 1000000)
    (hr : ∀ p' : Int, 0 ≤ p' → p' < 10 → 0 ≤ σ0 113 p' ∧ σ0 113 p' ≤ 1000) (hnn : ∀ q ∈ mp σ0 p, 0 ≤ q.2) (hps : psum (mp σ0 p) ≤ 100000000) : ∀ (m j : Nat) (σ : AS), j + m = n → mgain σ0 p k g j σ →
    am_E Ln (d + 1) 200 240 [vR 82, vI i, vU, vI k, vU, vU, vU, vU, vI (j : Int)] [] σ (am_rV (mgain σ0 p k g n)) := by
  have hgn : ∀ x : Int, 0 ≤ x → x < n → 0 ≤ g x := fun x a b => (hg x a b).2
  have prs : ∀ j : Nat, psum (rl j (fun x => (x, g x))) = sm g j := by
    intro j
    induction j with
    | zero => rfl
    | succ j ih => rw [show ((j + 1 : Nat) : Int) = (j : Int) + 1 by omega, rl_succ _ (by omega), psum_app, psum_c, psum_nil, ih, sm]; omega
  intro m
  induction m with
  | zero =>
    intro j σ hj hx
    obtain rfl : j = n := by omega
    have e3 : σ 82 3 = j := by rw [hx.1.fld 82 3 (by decide), hn]
    exact vl_X12_sells_240 _ _ _ _ ⟨fun _ => hx, fun h => absurd (by omega) h⟩
  | succ m ih =>
    intro j σ hj hx
    obtain ⟨x1, x2, x3, x4⟩ := hx
    have e3 : σ 82 3 = n := by rw [x1.fld 82 3 (by decide), hn]
    have e87 : σ 87 i = p := by rw [x1.cell 87 (by decide), h87]
    have e125 : σ 125 j = g j := by rw [x1.cell 125 (by decide)]; exact (hg j (by omega) (by omega)).1
    have hj0 := hgn j (by omega) (by omega)
    have hs1 := sm_part hgn (by omega : j + 1 ≤ n)
    have hs2 := sm_nn (f := g) (n := j) (fun x a b => hgn x a (by omega))
    rw [sm] at hs1
    obtain ⟨τ, hτ⟩ : ∃ τ, τ = am_up σ 116 (10 * k + j) 0 := ⟨_, rfl⟩
    have fτ : Fr [116] [] σ τ := by rw [hτ]; exact Fr.up Fr.rf (Or.inl (by decide))
    have eτ : ∀ p', mp τ p' = mp σ p' := fun p' => mp_eq (fτ.cell 113 (by decide)) (fτ.cell 114 (by decide)) (fτ.cell 115 (by decide))
    have e113 : τ 113 = σ 113 := fτ.cell 113 (by decide)
    have exq : mp τ p = layAll (mp σ0 p) (rl j (fun x => (x, g x))) := by rw [eτ, x2 p hp.1 hp.2, if_pos rfl]
    have hrl : ∀ q ∈ rl j (fun x => (x, g x)), 0 ≤ q.2 := by
      intro q hq
      obtain ⟨u, c0, c1, c2⟩ := rl_mem.mp hq
      rw [← c2]
      exact hgn u c0 (by omega)
    refine vl_X12_sells_240 _ _ _ _ ⟨fun h => absurd h (by omega), fun _ => ?_⟩
    rw [w32_id (x := 10 * k) (by omega) (by omega), w32_id (x := 10 * k + (j : Int)) (by omega) (by omega), w32_id (x := (j : Int) + 1) (by omega) (by omega), e87, e125, ← hτ]
    refine ⟨⟨by omega, by omega⟩, hi, ⟨by omega, by omega⟩, cV (sp_lays hp (fun p' a b => by rw [e113]; have := x3 p' a b; have := hr p' a b; omega) ⟨hj0, by omega⟩ (by rw [exq]; exact layAll_nn hnn) (by rw [exq, layAll_psum hrl, prs]; omega)) ?_⟩
    rintro s1 ⟨y1, y2, y3, y4⟩
    have key := ih (j + 1) s1 (by omega) ⟨(x1.tr (fτ.mo (by decide) (by decide))).tr (y1.mo (by decide) (by decide)), fun p' a b => ?_, fun p' a b => ?_, fun c => ?_⟩
    · exact key
    · rw [y2 p' a b, show ((j + 1 : Nat) : Int) = (j : Int) + 1 by omega, rl_succ _ (by omega), layAll_app]
      by_cases ee : p' = p
      · rw [if_pos ee, if_pos ee, exq]; rfl
      · rw [if_neg ee, if_neg ee, eτ, x2 p' a b, if_neg ee]
    · have h1 := y3 p' a b
      have h2 := x3 p' a b
      rw [e113] at h1
      have h3 := h1.2
      split at h3 <;> omega
    · rw [y1.cell 116 (by decide), hτ, am_up_eq, x4 c, show ((j + 1 : Nat) : Int) = (j : Int) + 1 by omega]
      by_cases ee : c = 10 * k + j
      · rw [if_pos ee, if_pos (by omega)]
      · rw [if_neg ee]
        by_cases e2 : 10 * k ≤ c ∧ c < 10 * k + j
        · rw [if_pos e2, if_pos (by omega)]
        · rw [if_neg e2, if_neg (by omega)]
