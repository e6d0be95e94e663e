/-! passes over the row of parts -/
theorem am_EI {Ln : Int} {d m pc : Nat} {ls st : List AV} {σ : AS} {P P' : Int → AS → Prop} (h : am_E Ln d m pc ls st σ (am_rI P)) (k : ∀ r s, P r s → P' r s) : am_E Ln d m pc ls st σ (am_rI P') := am_E_post h (fun v s q => by
  match v, q with
  | some (.inl x), q => exact k x s q)
theorem am_EV {Ln : Int} {d m pc : Nat} {ls st : List AV} {σ : AS} {P P' : AS → Prop} (h : am_E Ln d m pc ls st σ (am_rV P)) (k : ∀ s, P s → P' s) : am_E Ln d m pc ls st σ (am_rV P') := am_E_post h (fun v s q => by
  match v, q with
  | none, q => exact k s q)
theorem xgrab_XT {σ σ1 : AS} {i w r : Int} (h : XT σ) (h0 : 0 ≤ i) (hi : i < σ 41 3) (hw : 0 ≤ w) (hg : xgrab σ i w r σ1) : XT σ1 ∧ 0 ≤ r ∧ r ≤ w ∧ σ1 41 3 = σ 41 3 ∧ σ1 42 = σ 42 ∧ σ1 43 = σ 43 ∧ (∀ o, σ1 50 o = σ 50 o + (if o = σ 43 i then w - r else 0)) ∧ (∀ j, σ1 44 j = if j = i then σ 44 i - (w - r) else σ 44 j) := by
  obtain ⟨g1, g2, g3, g4, g5, g6⟩ := hg
  have e1 : σ1 41 3 = σ 41 3 := g2.fld 41 3 (by decide)
  have e2 : σ1 42 = σ 42 := g2.cell 42 (by decide)
  have e3 : σ1 43 = σ 43 := g2.cell 43 (by decide)
  have hi2 := h.2.1 i h0 hi
  refine ⟨⟨by rw [e1]; exact h.1, fun j a b => ?_, by rw [g6]; have := h.2.2; split <;> omega⟩, by omega, by omega, e1, e2, e3, fun o => ?_, fun j => ?_⟩
  · rw [e2, e3, g3, fu_app]
    have hj := h.2.1 j a (by omega)
    refine ⟨hj.1, hj.2.1, ?_⟩
    split
    · omega
    · exact hj.2.2
  · rw [g4, fu_app]
    split
    · rename_i e; rw [e]; omega
    · omega
  · rw [g3, fu_app]
    split
    · omega
    · rfl
set_option maxHeartbeats 4000000 in
theorem lp_takeOf {Ln : Int} {d : Nat} {p o : Int} : ∀ (m : Nat) (σ : AS) (i w : Int), XT σ → (0 ≤ w ∧ w ≤ 1000000000) → (∀ x : Int, 0 ≤ x → x < 10 → 0 ≤ σ 50 x ∧ σ 50 x + w ≤ 1000000000) → σ 41 9 + nf (fun x => decide (x = o)) (pj p (xsf σ i)) ≤ 1010 → 0 ≤ i → (σ 41 3 - i).toNat = m →
    am_E Ln (d + 1) 80 6 [vR 41, vI p, vI o, vU, vI w, vI i] [] σ (am_rI (xpass (fun x => decide (x = o)) σ p i w)) := by
  intro m
  induction m with
  | zero =>
    intro σ i w hT hw hgot htk h0 hm
    refine vl_X9_takeOf_6 _ _ _ _ _ ⟨fun _ => xpass_stop hT h0 hw.1 (Or.inl (by omega)), fun h => absurd (by omega) h⟩
  | succ m ih =>
    intro σ i w hT hw hgot htk h0 hm
    have hlt : i < σ 41 3 := by omega
    have hsz := hT.1
    have hel := hT.2.1 i h0 hlt
    refine vl_X9_takeOf_6 _ _ _ _ _ ⟨fun h => absurd h (by omega), fun _ => ⟨fun h => xpass_stop hT h0 hw.1 (Or.inr h), fun h2 => ⟨⟨h0, by omega⟩, fun h3 => ⟨⟨h0, by omega⟩, fun h4 => ?_, fun h4 => ?_⟩, fun h3 => ?_⟩⟩⟩
    · refine cI (sp_grab ⟨h0, by omega⟩ hel.2.1 ⟨hw.1, hw.2⟩ hel.2.2 (by have := hgot (σ 43 i) hel.2.1.1 hel.2.1.2; omega) ?_) ?_
      · rw [xsf_cons hlt, pj_cons, if_pos h3, nf_cons, if_pos (by simp [h4])] at htk
        have := nf_nn (f := (fun x => decide (x = o))) (l := pj p (xsf σ (i + 1)))
        have := hT.2.2
        omega
      · intro r1 σ1 hg
        obtain ⟨k1, k2, k3, k4, k5, k6, k7, k8⟩ := xgrab_XT hT h0 hlt hw.1 hg
        have esf : xsf σ1 (i + 1) = xsf σ (i + 1) := xsf_congr (fun j a b => by rw [k8, if_neg (by omega)]) k4 k5 k6
        rw [w32_id (by omega) (by omega)]
        refine am_EI (ih σ1 (i + 1) r1 k1 ⟨k2, by omega⟩ (fun o a b => ?_) ?_ (by omega) (by omega)) (fun r s q => xpass_grab hT h0 hlt hw.1 h3 (by simp [h4]) hg q)
        · have := hgot o a b
          rw [k7 o]
          split <;> omega
        · rw [xsf_cons hlt, pj_cons, if_pos h3, nf_cons, if_pos (by simp [h4])] at htk
          rw [esf]
          obtain ⟨-, -, -, -, -, g6⟩ := hg
          rw [g6]
          split <;> omega
    · rw [w32_id (by omega) (by omega)]; rw [xsf_cons hlt, pj_cons, if_pos h3, nf_cons, if_neg (by simp [h4])] at htk; exact am_EI (ih σ (i + 1) w hT hw hgot (by omega) (by omega) (by omega)) (fun r s q => xpass_skip hlt (Or.inr (by simp [h4])) q)
    · rw [w32_id (by omega) (by omega)]
      rw [xsf_cons hlt, pj_cons, if_neg h3] at htk
      exact am_EI (ih σ (i + 1) w hT hw hgot htk (by omega) (by omega)) (fun r s q => xpass_skip hlt (Or.inl h3) q)
theorem sp_takeOf {Ln : Int} {d : Nat} {σ : AS} {p o w : Int} (hT : XT σ) (hw : 0 ≤ w ∧ w ≤ 1000000000) (hg : ∀ x : Int, 0 ≤ x → x < 10 → 0 ≤ σ 50 x ∧ σ 50 x + w ≤ 1000000000) (ht : σ 41 9 + nf (fun x => decide (x = o)) (pj p (xsf σ 0)) ≤ 1010) :
    am_M Ln (d + 2) 80 [vR 41, vI p, vI o, vI w] σ (am_rI (xpass (fun x => decide (x = o)) σ p 0 w)) := vm_X9_takeOf _ _ _ _ (lp_takeOf _ σ 0 w hT hw hg ht (by omega) rfl)
set_option maxHeartbeats 4000000 in
theorem lp_takeOthers {Ln : Int} {d : Nat} {p o : Int} : ∀ (m : Nat) (σ : AS) (i w : Int), XT σ → (0 ≤ w ∧ w ≤ 1000000000) → (∀ x : Int, 0 ≤ x → x < 10 → 0 ≤ σ 50 x ∧ σ 50 x + w ≤ 1000000000) → σ 41 9 + nf (fun x => !decide (x = o)) (pj p (xsf σ i)) ≤ 1010 → 0 ≤ i → (σ 41 3 - i).toNat = m →
    am_E Ln (d + 1) 81 6 [vR 41, vI p, vI o, vU, vI w, vI i] [] σ (am_rI (xpass (fun x => !decide (x = o)) σ p i w)) := by
  intro m
  induction m with
  | zero =>
    intro σ i w hT hw hgot htk h0 hm
    refine vl_X9_takeOthers_6 _ _ _ _ _ ⟨fun _ => xpass_stop hT h0 hw.1 (Or.inl (by omega)), fun h => absurd (by omega) h⟩
  | succ m ih =>
    intro σ i w hT hw hgot htk h0 hm
    have hlt : i < σ 41 3 := by omega
    have hsz := hT.1
    have hel := hT.2.1 i h0 hlt
    refine vl_X9_takeOthers_6 _ _ _ _ _ ⟨fun h => absurd h (by omega), fun _ => ⟨fun h => xpass_stop hT h0 hw.1 (Or.inr h), fun h2 => ⟨⟨h0, by omega⟩, fun h3 => ⟨⟨h0, by omega⟩, fun h4 => ?_, fun h4 => ?_⟩, fun h3 => ?_⟩⟩⟩
    · rw [w32_id (by omega) (by omega)]; rw [xsf_cons hlt, pj_cons, if_pos h3, nf_cons, if_neg (by simp [h4])] at htk; exact am_EI (ih σ (i + 1) w hT hw hgot (by omega) (by omega) (by omega)) (fun r s q => xpass_skip hlt (Or.inr (by simp [h4])) q)
    · refine cI (sp_grab ⟨h0, by omega⟩ hel.2.1 ⟨hw.1, hw.2⟩ hel.2.2 (by have := hgot (σ 43 i) hel.2.1.1 hel.2.1.2; omega) ?_) ?_
      · rw [xsf_cons hlt, pj_cons, if_pos h3, nf_cons, if_pos (by simp [h4])] at htk
        have := nf_nn (f := (fun x => !decide (x = o))) (l := pj p (xsf σ (i + 1)))
        have := hT.2.2
        omega
      · intro r1 σ1 hg
        obtain ⟨k1, k2, k3, k4, k5, k6, k7, k8⟩ := xgrab_XT hT h0 hlt hw.1 hg
        have esf : xsf σ1 (i + 1) = xsf σ (i + 1) := xsf_congr (fun j a b => by rw [k8, if_neg (by omega)]) k4 k5 k6
        rw [w32_id (by omega) (by omega)]
        refine am_EI (ih σ1 (i + 1) r1 k1 ⟨k2, by omega⟩ (fun o a b => ?_) ?_ (by omega) (by omega)) (fun r s q => xpass_grab hT h0 hlt hw.1 h3 (by simp [h4]) hg q)
        · have := hgot o a b
          rw [k7 o]
          split <;> omega
        · rw [xsf_cons hlt, pj_cons, if_pos h3, nf_cons, if_pos (by simp [h4])] at htk
          rw [esf]
          obtain ⟨-, -, -, -, -, g6⟩ := hg
          rw [g6]
          split <;> omega
    · rw [w32_id (by omega) (by omega)]
      rw [xsf_cons hlt, pj_cons, if_neg h3] at htk
      exact am_EI (ih σ (i + 1) w hT hw hgot htk (by omega) (by omega)) (fun r s q => xpass_skip hlt (Or.inl h3) q)
theorem sp_takeOthers {Ln : Int} {d : Nat} {σ : AS} {p o w : Int} (hT : XT σ) (hw : 0 ≤ w ∧ w ≤ 1000000000) (hg : ∀ x : Int, 0 ≤ x → x < 10 → 0 ≤ σ 50 x ∧ σ 50 x + w ≤ 1000000000) (ht : σ 41 9 + nf (fun x => !decide (x = o)) (pj p (xsf σ 0)) ≤ 1010) :
    am_M Ln (d + 2) 81 [vR 41, vI p, vI o, vI w] σ (am_rI (xpass (fun x => !decide (x = o)) σ p 0 w)) := vm_X9_takeOthers _ _ _ _ (lp_takeOthers _ σ 0 w hT hw hg ht (by omega) rfl)
