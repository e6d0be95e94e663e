/-! pieces of the class's code, put together -/
def SX (K : Int → Int) (a b N : Int) (g : GF) : Prop := (0 ≤ a ∧ a < b ∧ 1 ≤ N) ∧ ∀ (Ln : Int) (d : Nat) (σ : AS) (c h e : Int) (f : Int → Int) (Q : Option AV → AS → Prop), (0 ≤ c ∧ c < 240) → σ 34 c = e → b ≤ e → e ≤ 3200 → (∀ j : Int, a ≤ j → j < b → σ 35 j = K j) → (∀ j : Int, 0 ≤ j → j < 8 → σ 38 j = f j) → 0 ≤ h → h + N < 40 →
  (∀ v u, g f = some v → (∀ j : Int, j < h → u j = σ 37 j) → u h = v → am_E Ln (d + 1) 52 9 [vR 24, vI c, vI (h + 1), vI b, vU, vU, vU] [] (zc σ 37 u) Q) →
  (g f = none → ∀ u, am_b 0 ∧ Q (some (vI 0)) (zc σ 37 u)) →
  am_E Ln (d + 1) 52 9 [vR 24, vI c, vI h, vI a, vU, vU, vU] [] σ Q
theorem SX_congr {K K' : Int → Int} {a b N : Int} {g : GF} (h : SX K a b N g) (hk : ∀ j : Int, a ≤ j → j < b → K' j = K j) : SX K' a b N g :=
  ⟨h.1, fun Ln d σ c hh e f Q a1 a2 a3 a4 a5 => h.2 Ln d σ c hh e f Q a1 a2 a3 a4 (fun j x y => by rw [a5 j x y, hk j x y])⟩
theorem SX_mono {K : Int → Int} {a b N N' : Int} {g : GF} (h : SX K a b N g) (hn : N ≤ N') : SX K a b N' g :=
  ⟨⟨h.1.1, h.1.2.1, by have := h.1.2.2; omega⟩, fun Ln d σ c hh e f Q a1 a2 a3 a4 a5 a6 a7 a8 => h.2 Ln d σ c hh e f Q a1 a2 a3 a4 a5 a6 a7 (by omega)⟩
theorem SX_num {K : Int → Int} {a v : Int} (ha : 0 ≤ a) (hv : 0 ≤ v ∧ v < 100000000) (hK : K a = 16 * v + 0) : SX K a (a + 1) 1 (fun _ => some v) := by
  refine ⟨⟨ha, by omega, by omega⟩, fun Ln d σ c h e f Q hc he hb h32 hk hf h0 h4 k1 _ => ?_⟩
  refine hx_num hc he (by omega) ⟨ha, by omega⟩ ⟨h0, by omega⟩ hv (by rw [hk a (by omega) (by omega), hK]) ?_
  rw [up_zc]
  exact k1 v _ rfl (fun j hj => fu_ne (by omega)) fu_eq
theorem SX_let {K : Int → Int} {a v : Int} (ha : 0 ≤ a) (hv : 0 ≤ v ∧ v < 8) (hK : K a = 16 * v + 1) : SX K a (a + 1) 1 (fun f => some (f v)) := by
  refine ⟨⟨ha, by omega, by omega⟩, fun Ln d σ c h e f Q hc he hb h32 hk hf h0 h4 k1 _ => ?_⟩
  refine hx_let hc he (by omega) ⟨ha, by omega⟩ ⟨h0, by omega⟩ hv (by rw [hk a (by omega) (by omega), hK]) ?_
  rw [up_zc, hf v hv.1 hv.2]
  exact k1 (f v) _ rfl (fun j hj => fu_ne (by omega)) fu_eq
theorem SX_not {K : Int → Int} {a b N : Int} {g : GF} (h : SX K a b N g) (hK : K b = 16 * 0 + 2) : SX K a (b + 1) N (notg g) := by
  obtain ⟨⟨h1, h2, h3⟩, hs⟩ := h
  refine ⟨⟨h1, by omega, h3⟩, fun Ln d σ c h e f Q hc he hb h32 hk hf h0 h4 k1 k2 => ?_⟩
  refine hs Ln d σ c h e f Q hc he (by omega) h32 (fun j x y => hk j x (by omega)) hf h0 h4 (fun v u hg hu hv => ?_) (fun hg u => k2 (by unfold notg; rw [hg]) u)
  refine hx_not (e := e) hc (by rw [zc_ne (by decide)]; exact he) (by omega) ⟨by omega, by omega⟩ ⟨by omega, by omega⟩ (by rw [zc_ne (by decide), hk b (by omega) (by omega), hK]) ?_
  rw [zc_eq, up_zcs, show h + 1 - 1 = h by omega, hv]
  refine k1 (w64 (1 - v)) _ (by unfold notg; rw [hg]) (fun j hj => ?_) fu_eq
  rw [fu_ne (by omega), hu j hj]
theorem SX_bin {K : Int → Int} {a b b2 N1 N2 w : Int} {g1 g2 : GF} (h1 : SX K a b N1 g1) (h2 : SX K b b2 N2 g2) (hw : 5 ≤ w ∧ w ≤ 12) (hK : K b2 = 16 * 0 + w) : SX K a (b2 + 1) (max N1 (N2 + 1)) (bing w g1 g2) := by
  obtain ⟨⟨p1, p2, p3⟩, hs1⟩ := h1
  obtain ⟨⟨q1, q2, q3⟩, hs2⟩ := h2
  refine ⟨⟨p1, by omega, by omega⟩, fun Ln d σ c h e f Q hc he hb h32 hk hf h0 h4 k1 k2 => ?_⟩
  refine hs1 Ln d σ c h e f Q hc he (by omega) h32 (fun j x y => hk j x (by omega)) hf h0 (by omega) (fun v u hg hu hv => ?_) (fun hg u => k2 (by unfold bing; rw [hg]) u)
  refine hs2 Ln d (zc σ 37 u) c (h + 1) e f Q hc (by rw [zc_ne (by decide)]; exact he) (by omega) h32 (fun j x y => by rw [zc_ne (by decide)]; exact hk j (by omega) (by omega)) (by rw [zc_ne (by decide)]; exact hf) (by omega) (by omega) (fun v2 u2 hg2 hu2 hv2 => ?_) (fun hg2 u2 => by rw [zc_zc]; exact k2 (by unfold bing; rw [hg, hg2]) u2)
  rw [zc_zc]
  rw [zc_eq] at hu2
  have e1 : u2 h = v := by rw [hu2 h (by omega), hv]
  refine hx_bin (e := e) hc (by rw [zc_ne (by decide)]; exact he) (by omega) ⟨by omega, by omega⟩ ⟨by omega, by omega⟩ hw (by rw [zc_ne (by decide), hk b2 (by omega) (by omega), hK]) (fun z => ?_) (fun z => ?_)
  · rw [zc_eq, show h + 1 + 1 - 1 = h + 1 by omega, hv2] at z
    exact k2 (by unfold bing; rw [hg, hg2]; dsimp only; rw [if_pos z]) u2
  · rw [zc_eq, show h + 1 + 1 - 1 = h + 1 by omega, hv2] at z
    rw [zc_eq, show h + 1 + 1 - 1 = h + 1 by omega, show h + 1 + 1 - 2 = h by omega, hv2, e1, up_zcs]
    refine k1 (rk w v v2) _ (by unfold bing; rw [hg, hg2]; dsimp only; rw [if_neg z]) (fun j hj => ?_) fu_eq
    rw [fu_ne (by omega), hu2 j (by omega), hu j hj]
theorem SX_and {K : Int → Int} {a b b2 N1 N2 : Int} {g1 g2 : GF} (h1 : SX K a b N1 g1) (h2 : SX K (b + 1) b2 N2 g2) (hK : b2 ≤ 3200 → K b = 16 * b2 + 3) : SX K a b2 (max N1 N2) (andg g1 g2) := by
  obtain ⟨⟨p1, p2, p3⟩, hs1⟩ := h1
  obtain ⟨⟨q1, q2, q3⟩, hs2⟩ := h2
  refine ⟨⟨p1, by omega, by omega⟩, fun Ln d σ c h e f Q hc he hb h32 hk hf h0 h4 k1 k2 => ?_⟩
  refine hs1 Ln d σ c h e f Q hc he (by omega) h32 (fun j x y => hk j x (by omega)) hf h0 (by omega) (fun v u hg hu hv => ?_) (fun hg u => k2 (by unfold andg; rw [hg]) u)
  refine hx_and (v := b2) (e := e) hc (by rw [zc_ne (by decide)]; exact he) (by omega) ⟨by omega, by omega⟩ ⟨by omega, by omega⟩ ⟨by omega, by omega⟩ (by rw [zc_ne (by decide), hk b (by omega) (by omega), hK (by omega)]) (fun z => ?_) (fun z => ?_)
  · rw [zc_eq, show h + 1 - 1 = h by omega, hv] at z
    exact k1 v u (by unfold andg; rw [hg]; dsimp only; rw [if_pos z]) hu hv
  · rw [zc_eq, show h + 1 - 1 = h by omega, hv] at z
    rw [show h + 1 - 1 = h by omega]
    have e0 : andg g1 g2 f = g2 f := by unfold andg; rw [hg]; dsimp only; rw [if_neg z]
    refine hs2 Ln d (zc σ 37 u) c h e f Q hc (by rw [zc_ne (by decide)]; exact he) hb h32 (fun j x y => by rw [zc_ne (by decide)]; exact hk j (by omega) y) (by rw [zc_ne (by decide)]; exact hf) h0 (by omega) (fun v2 u2 hg2 hu2 hv2 => ?_) (fun hg2 u2 => by rw [zc_zc]; exact k2 (by rw [e0]; exact hg2) u2)
    rw [zc_zc]
    rw [zc_eq] at hu2
    exact k1 v2 u2 (by rw [e0]; exact hg2) (fun j hj => by rw [hu2 j hj, hu j hj]) hv2
theorem SX_or {K : Int → Int} {a b b2 N1 N2 : Int} {g1 g2 : GF} (h1 : SX K a b N1 g1) (h2 : SX K (b + 1) b2 N2 g2) (hK : b2 ≤ 3200 → K b = 16 * b2 + 4) : SX K a b2 (max N1 N2) (org g1 g2) := by
  obtain ⟨⟨p1, p2, p3⟩, hs1⟩ := h1
  obtain ⟨⟨q1, q2, q3⟩, hs2⟩ := h2
  refine ⟨⟨p1, by omega, by omega⟩, fun Ln d σ c h e f Q hc he hb h32 hk hf h0 h4 k1 k2 => ?_⟩
  refine hs1 Ln d σ c h e f Q hc he (by omega) h32 (fun j x y => hk j x (by omega)) hf h0 (by omega) (fun v u hg hu hv => ?_) (fun hg u => k2 (by unfold org; rw [hg]) u)
  refine hx_or (v := b2) (e := e) hc (by rw [zc_ne (by decide)]; exact he) (by omega) ⟨by omega, by omega⟩ ⟨by omega, by omega⟩ ⟨by omega, by omega⟩ (by rw [zc_ne (by decide), hk b (by omega) (by omega), hK (by omega)]) (fun z => ?_) (fun z => ?_)
  · rw [zc_eq, show h + 1 - 1 = h by omega, hv] at z
    exact k1 v u (by unfold org; rw [hg]; dsimp only; rw [if_neg z]) hu hv
  · rw [zc_eq, show h + 1 - 1 = h by omega, hv] at z
    rw [show h + 1 - 1 = h by omega]
    have e0 : org g1 g2 f = g2 f := by unfold org; rw [hg]; dsimp only; rw [if_pos z]
    refine hs2 Ln d (zc σ 37 u) c h e f Q hc (by rw [zc_ne (by decide)]; exact he) hb h32 (fun j x y => by rw [zc_ne (by decide)]; exact hk j (by omega) y) (by rw [zc_ne (by decide)]; exact hf) h0 (by omega) (fun v2 u2 hg2 hu2 hv2 => ?_) (fun hg2 u2 => by rw [zc_zc]; exact k2 (by rw [e0]; exact hg2) u2)
    rw [zc_zc]
    rw [zc_eq] at hu2
    exact k1 v2 u2 (by rw [e0]; exact hg2) (fun j hj => by rw [hu2 j hj, hu j hj]) hv2
/-- a clause's condition has only 0 and 1 for answers -/
def BO (g : GF) : Prop := ∀ f v, g f = some v → v = 0 ∨ v = 1
theorem BO_not {g : GF} (h : BO g) : BO (notg g) := by
  intro f v hv
  unfold notg at hv
  cases e : g f with
  | none => rw [e] at hv; cases hv
  | some x =>
    rw [e] at hv
    dsimp only at hv
    injection hv with hv
    rcases h f x e with q | q <;> rw [q] at hv <;> rw [← hv]
    · exact Or.inr rfl
    · exact Or.inl rfl
theorem BO_and {g1 g2 : GF} (h1 : BO g1) (h2 : BO g2) : BO (andg g1 g2) := by
  intro f v hv
  unfold andg at hv
  cases e : g1 f with
  | none => rw [e] at hv; cases hv
  | some x =>
    rw [e] at hv
    dsimp only at hv
    split at hv
    · injection hv with hv; rw [← hv]; exact h1 f x e
    · exact h2 f v hv
theorem BO_or {g1 g2 : GF} (h1 : BO g1) (h2 : BO g2) : BO (org g1 g2) := by
  intro f v hv
  unfold org at hv
  cases e : g1 f with
  | none => rw [e] at hv; cases hv
  | some x =>
    rw [e] at hv
    dsimp only at hv
    split at hv
    · exact h2 f v hv
    · injection hv with hv; rw [← hv]; exact h1 f x e
theorem BO_cmp {g1 g2 : GF} {w : Int} (hw : w = 10 ∨ w = 11 ∨ w = 12) : BO (bing w g1 g2) := by
  intro f v hv
  unfold bing at hv
  cases e : g1 f with
  | none => rw [e] at hv; cases hv
  | some x =>
    cases e2 : g2 f with
    | none => rw [e, e2] at hv; cases hv
    | some y =>
      rw [e, e2] at hv
      dsimp only at hv
      rw [if_neg (by omega)] at hv
      injection hv with hv
      rw [← hv]
      rcases hw with q | q | q <;> rw [q] <;> unfold rk <;> simp <;> omega
theorem sp_holds {Ln : Int} {d : Nat} {σ : AS} {c : Int} {f : Int → Int} {g : GF} (hc : 0 ≤ c ∧ c < 240) (h : SX (σ 35) (σ 33 c) (σ 34 c) 39 g) (hb : BO g) (he : σ 34 c ≤ 3200) (hf : ∀ j : Int, 0 ≤ j → j < 8 → σ 38 j = f j) :
    am_M Ln (d + 2) 52 [vR 24, vI c] σ (am_rI fun r σ' => r = (if g f = some 1 then 1 else 0) ∧ Fr [37] [] σ σ') := by
  refine vm_X7_holds _ _ ⟨hc, ?_⟩
  refine h.2 Ln d σ c 0 (σ 34 c) f _ hc rfl (by omega) he (fun j _ _ => rfl) hf (by omega) (by omega) (fun v u hg hu hv => ?_) (fun hg u => ⟨am_b0, ?_, Fr.cl Fr.rf (by decide)⟩)
  · refine hx_end hc (by rw [zc_ne (by decide)]; exact Int.le_refl _) (fun z => ⟨am_b0, ?_, Fr.cl Fr.rf (by decide)⟩) (fun z => ⟨am_b1, ?_, Fr.cl Fr.rf (by decide)⟩)
    · rw [zc_eq, hv] at z
      rw [hg, z]; rfl
    · rw [zc_eq, hv] at z
      have : v = 1 := (hb f v hg).resolve_left z
      rw [hg, this]; rfl
  · rw [hg]; rfl
