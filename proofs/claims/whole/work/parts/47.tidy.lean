/-! taking from the last part, and keeping the row tidy -/
def xpf (σ : AS) (i : Int) : List (Int × Int × Int) := rl i (fun j => (σ 42 j, σ 43 j, σ 44 j))
theorem xpf_succ {σ : AS} {i : Int} (h : 0 ≤ i) : xpf σ (i + 1) = xpf σ i ++ [(σ 42 i, σ 43 i, σ 44 i)] := rl_succ _ h
theorem xpf_all {σ : AS} : xpf σ (σ 41 3) = xl σ := rfl
theorem xpf_0 {σ : AS} : xpf σ 0 = [] := rfl
theorem xpf_congr {σ σ' : AS} {i : Int} (h : ∀ j : Int, 0 ≤ j → j < i → σ' 44 j = σ 44 j) (h2 : σ' 42 = σ 42) (h3 : σ' 43 = σ 43) : xpf σ' i = xpf σ i := by
  unfold xpf
  rw [h2, h3]
  exact rl_congr fun j a b => by rw [h j a b]
theorem pj_one {p : Int} {q : Int × Int × Int} : pj p [q] = if q.1 = p then [q.2] else [] := by rw [pj_cons, pj_nil]
/-- all persons -/
def fA : Int → Bool := fun _ => true
def xback (σ : AS) (p i w : Int) (σ' : AS) : Prop :=
  let x := gr fA w (pj p (xpf σ i)).reverse
  XT σ' ∧ Fr [44, 48, 49, 50] [(41, 9)] σ σ' ∧ (pj p (xpf σ' i)).reverse = x.1 ∧ (∀ j : Int, i ≤ j ∨ σ 42 j ≠ p → σ' 44 j = σ 44 j) ∧ xt σ' = xt σ ++ x.2.1 ∧ (∀ o : Int, 0 ≤ o → o < 10 → σ' 50 o = σ 50 o + pof o x.2.1)
theorem xback_stop {σ : AS} {p i w : Int} (h : XT σ) (hi : i ≤ σ 41 3) (hw : 0 ≤ w) (hs : i ≤ 0 ∨ w ≤ 0) : xback σ p i w σ := by
  have key : gr fA w (pj p (xpf σ i)).reverse = ((pj p (xpf σ i)).reverse, [], w) := by
    rcases hs with q | q
    · unfold xpf; rw [rl_neg _ q]; rfl
    · have e : w = 0 := by omega
      subst e
      refine gr_z fun q hq => ?_
      rw [List.mem_reverse] at hq
      unfold pj at hq
      obtain ⟨x, hx, rfl⟩ := List.mem_map.mp hq
      obtain ⟨j, c0, c1, c2⟩ := rl_mem.mp (List.mem_filter.mp hx).1
      rw [← c2]
      exact (h.2.1 j (by omega) (by omega)).2.2.1
  unfold xback
  rw [key]
  exact ⟨h, Fr.rf, rfl, fun j _ => rfl, by rw [List.append_nil], fun o _ _ => by simp [pof]⟩
theorem xback_skip {σ σ' : AS} {p i w : Int} (hi : 0 ≤ i) (hn : σ 42 i ≠ p) (h : xback σ p i w σ') : xback σ p (i + 1) w σ' := by
  obtain ⟨h2, h3, h4, h5, h6, h7⟩ := h
  have e2 : σ' 42 = σ 42 := h3.cell 42 (by decide)
  unfold xback
  rw [xpf_succ hi, pj_app, pj_one, if_neg hn, List.append_nil, xpf_succ (σ := σ') hi, pj_app, pj_one, if_neg (by rw [e2]; exact hn), List.append_nil]
  exact ⟨h2, h3, h4, fun j hj => h5 j (by rcases hj with q | q; left; omega; right; exact q), h6, h7⟩
theorem xback_grab {σ σ1 σ' : AS} {p i w r1 : Int} (hT : XT σ) (h0 : 0 ≤ i) (hi : i < σ 41 3) (hw : 0 ≤ w) (hp : σ 42 i = p) (hg : xgrab σ i w r1 σ1) (h : xback σ1 p i r1 σ') : xback σ p (i + 1) w σ' := by
  obtain ⟨g1, g2, g3, g4, g5, g6⟩ := hg
  obtain ⟨h2, h3, h4, h5, h6, h7⟩ := h
  have e2 : σ1 42 = σ 42 := g2.cell 42 (by decide)
  have e3 : σ1 43 = σ 43 := g2.cell 43 (by decide)
  have d2 : σ' 42 = σ 42 := by rw [h3.cell 42 (by decide), e2]
  have d3 : σ' 43 = σ 43 := by rw [h3.cell 43 (by decide), e3]
  have d4 : σ' 44 i = σ 44 i - min w (σ 44 i) := by rw [h5 i (Or.inl (by omega)), g3, fu_eq]
  have esf : xpf σ1 i = xpf σ i := xpf_congr (fun j a b => by rw [g3, fu_ne (by omega)]) e2 e3
  rw [esf, g1] at h4 h6 h7
  unfold xback
  rw [xpf_succ h0, pj_app, pj_one, if_pos hp, List.reverse_append, xpf_succ (σ := σ') h0, pj_app, pj_one, if_pos (by show σ' 42 i = p; rw [d2]; exact hp), List.reverse_append, d3, d4]
  show XT σ' ∧ _ ∧ _ :: _ = (gr fA w (_ :: _)).1 ∧ _ ∧ xt σ' = xt σ ++ (gr fA w (_ :: _)).2.1 ∧ ∀ o : Int, 0 ≤ o → o < 10 → σ' 50 o = σ 50 o + pof o (gr fA w (_ :: _)).2.1
  dsimp only
  rw [gr_c, if_pos (show fA (σ 43 i) = true from rfl)]
  dsimp only
  refine ⟨h2, g2.tr h3, ?_, fun j hj => ?_, ?_, fun o a b => ?_⟩
  · exact congrArg (fun z => (σ 43 i, σ 44 i - min w (σ 44 i)) :: z) h4
  · have hj2 : j ≠ i := by rintro rfl; rcases hj with q | q; omega; exact q hp
    rw [h5 j (by rw [e2]; rcases hj with q | q; left; omega; right; exact q), g3, fu_ne hj2]
  · show xt σ' = xt σ ++ (if 0 < min w (σ 44 i) then (σ 43 i, min w (σ 44 i)) :: (gr fA (w - min w (σ 44 i)) (pj p (xpf σ i)).reverse).2.1 else (gr fA (w - min w (σ 44 i)) (pj p (xpf σ i)).reverse).2.1)
    rw [h6, g5, List.append_assoc]
    congr 1
    split <;> rfl
  · show σ' 50 o = σ 50 o + pof o (if 0 < min w (σ 44 i) then (σ 43 i, min w (σ 44 i)) :: (gr fA (w - min w (σ 44 i)) (pj p (xpf σ i)).reverse).2.1 else (gr fA (w - min w (σ 44 i)) (pj p (xpf σ i)).reverse).2.1)
    rw [h7 o a b, g4, fu_app]
    by_cases e : o = σ 43 i
    · rw [if_pos e]
      subst e
      split
      · rw [pof_c, if_pos rfl]; omega
      · have := hT.2.1 i h0 hi
        omega
    · rw [if_neg e]
      split
      · rw [pof_c, if_neg (fun q => e q.symm)]; omega
      · rfl
theorem lp_takeFromLast {Ln : Int} {d : Nat} {p : Int} : ∀ (m : Nat) (σ : AS) (i w : Int), XT σ → (0 ≤ w ∧ w ≤ 1000000000) → (∀ x : Int, 0 ≤ x → x < 10 → 0 ≤ σ 50 x ∧ σ 50 x + w ≤ 1000000000) → σ 41 9 + i ≤ 1010 → i ≤ σ 41 3 → 0 ≤ i → i.toNat = m →
    am_E Ln (d + 1) 79 10 [vR 41, vI p, vU, vI w, vI (i - 1)] [] σ (am_rV (xback σ p i w)) := by
  intro m
  induction m with
  | zero =>
    intro σ i w hT hw hgot htk h0 h00 hm
    exact vl_X9_takeFromLast_10 _ _ _ _ ⟨fun _ => xback_stop hT h0 hw.1 (Or.inl (by omega)), fun h => absurd (by omega) h⟩
  | succ m ih =>
    intro σ i w hT hw hgot htk h0 h00 hm
    have hsz := hT.1
    obtain ⟨j, rfl⟩ : ∃ j, i = j + 1 := ⟨i - 1, by omega⟩
    rw [show j + 1 - 1 = j by omega]
    have hel := hT.2.1 j (by omega) (by omega)
    refine vl_X9_takeFromLast_10 _ _ _ _ ⟨fun h => absurd h (by omega), fun _ => ⟨fun h => xback_stop hT h0 hw.1 (Or.inr h), fun h2 => ⟨⟨by omega, by omega⟩, fun h3 => ?_, fun h3 => ?_⟩⟩⟩
    · refine cI (sp_grab ⟨by omega, by omega⟩ hel.2.1 ⟨hw.1, hw.2⟩ hel.2.2 (by have := hgot (σ 43 j) hel.2.1.1 hel.2.1.2; omega) ⟨hT.2.2, by omega⟩) ?_
      intro r1 σ1 hg
      obtain ⟨k1, k2, k3, k4, k5, k6, k7, k8⟩ := xgrab_XT hT (by omega) (by omega) hw.1 hg
      rw [w32_id (by omega) (by omega), show j + (-1) = j - 1 by omega]
      refine am_EV (ih σ1 j r1 k1 ⟨k2, by omega⟩ (fun o a b => ?_) ?_ (by omega) (by omega) (by omega)) (fun s q => xback_grab hT (by omega) (by omega) hw.1 h3 hg q)
      · have := hgot o a b
        rw [k7 o]
        split <;> omega
      · obtain ⟨-, -, -, -, -, g6⟩ := hg
        rw [g6]
        split <;> omega
    · rw [w32_id (by omega) (by omega), show j + (-1) = j - 1 by omega]
      exact am_EV (ih σ j w hT hw hgot (by omega) (by omega) (by omega) (by omega)) (fun s q => xback_skip (by omega) h3 q)
theorem sp_takeFromLast {Ln : Int} {d : Nat} {σ : AS} {p w : Int} (hT : XT σ) (hw : 0 ≤ w ∧ w ≤ 1000000000) (hg : ∀ x : Int, 0 ≤ x → x < 10 → 0 ≤ σ 50 x ∧ σ 50 x + w ≤ 1000000000) (ht : σ 41 9 + σ 41 3 ≤ 1010) :
    am_M Ln (d + 2) 79 [vR 41, vI p, vI w] σ (am_rV (xback σ p (σ 41 3) w)) := by
  have := hT.1
  refine vm_X9_takeFromLast _ _ _ ?_
  rw [w32_id (by omega) (by omega)]
  exact lp_takeFromLast _ σ _ w hT hw hg ht (by omega) (by omega) rfl
/-- parts laid behind others, one after another -/
def layAll (l r : MP) : MP := r.foldl (fun l q => lay l q.1 q.2) l
theorem layAll_nil {l : MP} : layAll l [] = l := rfl
theorem layAll_cons {l r : MP} {q : Int × Int} : layAll l (q :: r) = layAll (lay l q.1 q.2) r := rfl
theorem layAll_app {l r r' : MP} : layAll l (r ++ r') = layAll (layAll l r) r' := by unfold layAll; rw [List.foldl_append]
theorem layAll_psum : ∀ {r l : MP}, (∀ q ∈ r, 0 ≤ q.2) → psum (layAll l r) = psum l + psum r
  | [], l, _ => by simp [layAll_nil, psum]
  | q :: r, l, h => by
    rw [layAll_cons, layAll_psum (fun x hx => h x (List.mem_cons_of_mem _ hx)), lay_psum (h q List.mem_cons_self), psum]
    omega
theorem layAll_pof {o : Int} : ∀ {r l : MP}, (∀ q ∈ r, 0 ≤ q.2) → pof o (layAll l r) = pof o l + pof o r
  | [], l, _ => by simp [layAll_nil, pof]
  | q :: r, l, h => by
    rw [layAll_cons, layAll_pof (fun x hx => h x (List.mem_cons_of_mem _ hx)), lay_pof (h q List.mem_cons_self), pof]
    omega
theorem layAll_len : ∀ {r l : MP}, (layAll l r).length ≤ l.length + r.length
  | [], l => by simp [layAll_nil]
  | q :: r, l => by
    have h1 := layAll_len (r := r) (l := lay l q.1 q.2)
    have h2 := lay_len l q.1 q.2
    rw [layAll_cons, List.length_cons]
    omega
theorem layAll_pok : ∀ {r l : MP}, pok l → (∀ q ∈ r, 0 ≤ q.1 ∧ q.1 < 10) → pok (layAll l r)
  | [], l, h, _ => h
  | q :: r, l, h, h2 => by
    rw [layAll_cons]
    exact layAll_pok (lay_pok h (h2 q List.mem_cons_self)) (fun x hx => h2 x (List.mem_cons_of_mem _ hx))
def xtidy (σ σ' : AS) : Prop := XW σ' ∧ Fr [42, 43, 44, 45] [(41, 3)] σ σ' ∧ (∀ p : Int, 0 ≤ p → p < 10 → xp σ' p = layAll [] (xp σ p)) ∧ σ' 41 3 ≤ σ 41 3
theorem lp_tidy {Ln : Int} {d : Nat} {σ0 : AS} (hT : XT σ0) (hs : ∀ p : Int, 0 ≤ p → p < 10 → psum (xp σ0 p) ≤ 1000000000) : ∀ (m : Nat) (σ : AS) (i : Int), XW σ → Fr [42, 43, 44, 45] [(41, 3)] σ0 σ → (∀ p : Int, 0 ≤ p → p < 10 → xp σ p = layAll [] (pj p (xpf σ0 i))) → σ 41 3 ≤ i → (∀ j : Int, i ≤ j → σ 42 j = σ0 42 j ∧ σ 43 j = σ0 43 j ∧ σ 44 j = σ0 44 j) → i ≤ σ0 41 3 → 0 ≤ i → (σ0 41 3 - i).toNat = m →
    am_E Ln (d + 2) 83 20 [vR 41, vI (σ0 41 3), vI i] [] σ (am_rV (xtidy σ0)) := by
  intro m
  induction m with
  | zero =>
    intro σ i hW hF hp hz hj hi h0 hm
    refine vl_X9_tidy_20 _ _ _ ⟨fun _ => ⟨hW, hF, fun p a b => ?_, by omega⟩, fun h => absurd (by omega) h⟩
    rw [hp p a b, show i = σ0 41 3 by omega, xpf_all]
    rfl
  | succ m ih =>
    intro σ i hW hF hp hz hj hi h0 hm
    have hlt : i < σ0 41 3 := by omega
    have hsz := hT.1
    have hel := hT.2.1 i h0 hlt
    have hji := hj i (by omega)
    refine vl_X9_tidy_20 _ _ _ ⟨fun h => absurd h (by omega), fun _ => ⟨⟨h0, by omega⟩, ⟨h0, by omega⟩, ⟨h0, by omega⟩, ?_⟩⟩
    rw [hji.1, hji.2.1, hji.2.2, w32_id (by omega) (by omega)]
    refine cV (sp_put hW hel.1 hel.2.1 (by omega) ?_ (by omega)) ?_
    · rw [hp _ hel.1.1 hel.1.2]
      have hnn : ∀ q ∈ pj (σ0 42 i) (xpf σ0 i), 0 ≤ q.2 := by
        intro q hq
        unfold pj at hq
        obtain ⟨x, hx, rfl⟩ := List.mem_map.mp hq
        obtain ⟨j, c0, c1, c2⟩ := rl_mem.mp (List.mem_filter.mp hx).1
        rw [← c2]
        exact (hT.2.1 j (by omega) (by omega)).2.2.1
      rw [layAll_psum hnn]
      have h1 := hs _ hel.1.1 hel.1.2
      unfold xp at h1
      have e : xl σ0 = xpf σ0 i ++ xsf σ0 i := rl_split _ h0 hi
      rw [e, pj_app, psum_app] at h1
      have := psum_nn (pj_nn (p := σ0 42 i) (i := i) hT h0)
      rw [show psum [] = 0 from rfl]
      omega
    · intro s1 k
      obtain ⟨k1, k2, k3, k4, k5⟩ := k
      refine ih s1 (i + 1) k1 (hF.tr k2) (fun p a b => ?_) (by omega) (fun j a => ?_) (by omega) (by omega) (by omega)
      · rw [k3 p a b, xpf_succ h0, pj_app, pj_one]
        by_cases e : p = σ0 42 i
        · rw [if_pos e, if_pos e.symm, layAll_app, ← hp p a b, e]
          rfl
        · rw [if_neg e, if_neg (fun q => e q.symm), List.append_nil]
          exact hp p a b
      · have h1 := k5 j (by omega)
        have h2 := hj j (by omega)
        exact ⟨h1.1.trans h2.1, h1.2.1.trans h2.2.1, h1.2.2.trans h2.2.2⟩
theorem sp_tidy {Ln : Int} {d : Nat} {σ : AS} (hT : XT σ) (hs : ∀ p : Int, 0 ≤ p → p < 10 → psum (xp σ p) ≤ 1000000000) : am_M Ln (d + 3) 83 [vR 41] σ (am_rV (xtidy σ)) := by
  refine vm_X9_tidy _ (cV (sp_fill_45 _ (-1)) ?_)
  rintro s ⟨f, rfl, hf⟩
  have h0 := hT.1
  have e0 : zc (am_up σ 41 3 0) 45 f 41 3 = 0 := by rw [zc_ne (by decide), am_up_eq, if_pos rfl]
  refine lp_tidy hT hs _ _ 0 ⟨by rw [e0]; omega, fun i a b => absurd b (by rw [e0]; omega), fun p a b => Or.inl ⟨hf p a b, fun i c0 c1 => absurd c1 (by rw [e0]; omega)⟩⟩ (Fr.cl (Fr.up Fr.rf (Or.inr (by decide))) (by decide)) (fun p a b => ?_) (by rw [e0]; omega) (fun j a => ⟨rfl, rfl, rfl⟩) (by omega) (by omega) rfl
  unfold xp xl
  rw [e0]
  rfl
