/-! the model reads -/
def MTp (ch : Int → Int) (n r : Int) (σ : AS) : Prop := σ 82 36 = n ∧ σ 82 7 = r ∧ ∀ q : Int, 0 ≤ q → q < n → bAnd (σ 83 q) 255 = ch q
def mpX : List Nat := [106, 107, 108]
def mpF : List (Nat × Int) := [(82, 35), (82, 37), (82, 39), (82, 40), (82, 41), (82, 42), (82, 43)]
theorem MTp_fr {ch : Int → Int} {n r : Int} {σ σ' : AS} (h : MTp ch n r σ) (hf : Fr mpX mpF σ σ') : MTp ch n r σ' := by
  unfold MTp
  rw [hf.fld 82 36 (by decide), hf.fld 82 7 (by decide), hf.cell 83 (by decide)]
  exact h
/-- the model's reading, nothing wrong: place q, op open, S stacked, m emitted behind c0 -/
def MPr (r c0 q op bh : Int) (S : List Int) (m : List (Int × Int)) (σ0 σ : AS) : Prop := Fr mpX mpF σ0 σ ∧ (∀ j : Int, j < 160 * r + c0 → σ 106 j = σ0 106 j ∧ σ 107 j = σ0 107 j) ∧ (σ 82 35 = q ∧ σ 82 37 = 0 ∧ σ 82 39 = c0 + m.length ∧ σ 82 40 = op ∧ σ 82 41 = S.length ∧ σ 82 42 = 0 ∧ σ 82 43 = bh) ∧ cds σ (160 * r + c0) m ∧ (rl (S.length : Int) (σ 108)).reverse = S ∧ c0 + m.length + S.length ≤ q
def BAD (r c0 : Int) (e : Int × Int) (σ0 σ : AS) : Prop := Fr mpX mpF σ0 σ ∧ (∀ j : Int, j < 160 * r + c0 → σ 106 j = σ0 106 j ∧ σ 107 j = σ0 107 j) ∧ σ 82 37 = -1000 * e.1 - e.2
section MB1
variable {Ln : Int} {d : Nat} {ch : Int → Int} {n r c0 q op bh : Int} {S : List Int} {m : List (Int × Int)} {σ0 σ : AS}
theorem BAD_up {e : Int × Int} {k : Nat} {i v : Int} (h : BAD r c0 e σ0 σ) (hk : (k, i) ∈ mpF) (hi : (k, i) ≠ (82, 37)) : BAD r c0 e σ0 (am_up σ k i v) := by
  obtain ⟨h1, h2, h3⟩ := h
  have hk2 : k = 82 := by
    have : ∀ x ∈ mpF, x.1 = 82 := by decide
    exact this _ hk
  subst hk2
  refine ⟨h1.up (Or.inr hk), fun j hj => by rw [am_up_ne (by decide), am_up_ne (by decide)]; exact h2 j hj, ?_⟩
  rw [am_up_eq, if_neg (fun z => hi (by rw [z]))]
  exact h3
theorem BAD_st {e : Int × Int} {i v : Int} (h : BAD r c0 e σ0 σ) : BAD r c0 e σ0 (am_up σ 108 i v) := by
  obtain ⟨h1, h2, h3⟩ := h
  exact ⟨h1.up (Or.inl (by decide)), fun j hj => by rw [am_up_ne (by decide), am_up_ne (by decide)]; exact h2 j hj, by rw [am_up_ne (by decide)]; exact h3⟩
theorem sp_here (hG : CG ch n (160 * r)) (hT : MTp ch n r σ) (h35 : σ 82 35 = q) (h0 : 0 ≤ q) : am_M Ln (d + 1) 152 [vR 82] σ (am_rI fun v s => v = ch q ∧ s = σ) := by
  have hn := hG.2.2.1
  refine vm_X12_here _ ?_
  rw [hT.1, h35]
  exact ⟨fun z => ⟨(hG.1 q z).symm, rfl⟩, fun z => ⟨by omega, hT.2.2 q h0 (by omega), rfl⟩⟩
theorem sp_good : am_M Ln (d + 1) 154 [vR 82] σ (am_rI fun v s => v = (if σ 82 37 = 0 then 1 else 0) ∧ s = σ) :=
  vm_X12_isGood _ ⟨fun z => ⟨am_b1, by rw [if_pos z], rfl⟩, fun z => ⟨am_b0, by rw [if_neg z], rfl⟩⟩
theorem sp_goodG (h : σ 82 37 = 0) : am_M Ln (d + 1) 154 [vR 82] σ (am_rI fun v s => v = 1 ∧ s = σ) :=
  am_MI sp_good (fun v s hh => by rw [if_pos h] at hh; exact hh)
theorem sp_goodB (h : σ 82 37 ≠ 0) : am_M Ln (d + 1) 154 [vR 82] σ (am_rI fun v s => v = 0 ∧ s = σ) :=
  am_MI sp_good (fun v s hh => by rw [if_neg h] at hh; exact hh)
theorem sp_wrongs {f p : Int} (h : σ 82 37 = 0) (hf : 0 ≤ f ∧ f ≤ 5) (hp : 0 ≤ p ∧ p ≤ 400) : am_M Ln (d + 1) 153 [vR 82, vI f, vI p] σ (am_rV fun s => s = am_up σ 82 37 (-1000 * f - p)) := by
  refine vm_X12_wrongs _ _ _ ?_
  rw [w32_id (x := -1000 * f) (by omega) (by omega), w32_id (x := -1000 * f - p) (by omega) (by omega)]
  exact ⟨fun _ => rfl, fun z => absurd (by omega) z⟩
theorem MPr_bad {f p : Int} (h : MPr r c0 q op bh S m σ0 σ) : BAD r c0 (f, p) σ0 (am_up σ 82 37 (-1000 * f - p)) :=
  ⟨h.1.up (Or.inr (by decide)), fun j hj => by rw [am_up_ne (by decide), am_up_ne (by decide)]; exact h.2.1 j hj, by rw [am_up_eq, if_pos rfl]⟩
theorem stk_top {c : Int} (h : MPr r c0 q op bh (c :: S) m σ0 σ) : σ 108 (S.length : Int) = c ∧ (rl (S.length : Int) (σ 108)).reverse = S := by
  have h1 := h.2.2.2.2.1
  rw [List.length_cons, show ((S.length + 1 : Nat) : Int) = (S.length : Int) + 1 by omega, rl_succ _ (by omega), List.reverse_append] at h1
  have := List.cons.inj h1
  exact this
theorem sp_top (h : MPr r c0 q op bh S m σ0 σ) (hq : q ≤ 160) (hc : 0 ≤ c0) : am_M Ln (d + 1) 156 [vR 82] σ (am_rI fun v s => v = S.headD 0 ∧ s = σ) := by
  obtain ⟨h1, h2, ⟨p1, p2, p3, p4, p5, p6, p7⟩, h4, h5, h6⟩ := id h
  refine vm_X12_top _ ?_
  rw [p5]
  cases S with
  | nil => exact ⟨fun _ => ⟨rfl, rfl⟩, fun z => absurd (by show (0 : Int) ≤ 0; omega) z⟩
  | cons c S =>
    rw [List.length_cons] at h6 ⊢
    rw [w32_id (x := ((S.length + 1 : Nat) : Int) - 1) (by omega) (by omega), show ((S.length + 1 : Nat) : Int) - 1 = S.length by omega]
    exact ⟨fun z => absurd z (by omega), fun _ => ⟨by omega, (stk_top h).1, rfl⟩⟩
/-- one more on the stack -/
theorem sp_puts {c : Int} (h : MPr r c0 q op bh S m σ0 σ) (hq : 0 ≤ q ∧ q < 160) (hc : 0 ≤ c0) : am_M Ln (d + 1) 157 [vR 82, vI c] σ (am_rV (MPr r c0 (q + 1) op bh (c :: S) m σ0)) := by
  obtain ⟨h1, h2, ⟨p1, p2, p3, p4, p5, p6, p7⟩, h4, h5, h6⟩ := h
  refine vm_X12_puts _ _ ?_
  rw [p5]
  have e41 : (am_up σ 108 (S.length : Int) c) 82 41 = S.length := by rw [am_up_ne (by decide)]; exact p5
  have e35 : (am_up (am_up σ 108 (S.length : Int) c) 82 41 (w32 ((S.length : Int) + 1))) 82 35 = q := by rw [am_up_eq, if_neg (by decide), am_up_ne (by decide)]; exact p1
  rw [show σ 82 35 = q from p1, w32_id (x := (S.length : Int) + 1) (by omega) (by omega), w32_id (x := q + 1) (by omega) (by omega)]
  refine ⟨by omega, Fr.up (Fr.up (Fr.up h1 (Or.inl (by decide))) (Or.inr (by decide))) (Or.inr (by decide)), fun j hj => by rw [am_up_ne (by decide), am_up_ne (by decide), am_up_ne (by decide), am_up_ne (by decide), am_up_ne (by decide), am_up_ne (by decide)]; exact h2 j hj, ⟨?_, ?_, ?_, ?_, ?_, ?_, ?_⟩, ?_, ?_, by rw [List.length_cons]; omega⟩
  · rw [am_up_eq, if_pos rfl]
  · rw [am_up_eq, if_neg (by decide), am_up_eq, if_neg (by decide), am_up_ne (by decide)]; exact p2
  · rw [am_up_eq, if_neg (by decide), am_up_eq, if_neg (by decide), am_up_ne (by decide)]; exact p3
  · rw [am_up_eq, if_neg (by decide), am_up_eq, if_neg (by decide), am_up_ne (by decide)]; exact p4
  · rw [am_up_eq, if_neg (by decide), am_up_eq, if_pos rfl, List.length_cons]; omega
  · rw [am_up_eq, if_neg (by decide), am_up_eq, if_neg (by decide), am_up_ne (by decide)]; exact p6
  · rw [am_up_eq, if_neg (by decide), am_up_eq, if_neg (by decide), am_up_ne (by decide)]; exact p7
  · unfold cds at h4 ⊢
    rw [am_up_ne (by decide), am_up_ne (by decide), am_up_ne (by decide), am_up_ne (by decide), am_up_ne (by decide), am_up_ne (by decide)]
    exact h4
  · rw [am_up_ne (by decide), am_up_ne (by decide), List.length_cons, show ((S.length + 1 : Nat) : Int) = (S.length : Int) + 1 by omega, rl_succ _ (by omega), List.reverse_append, am_up_eq, if_pos rfl]
    have e : rl (S.length : Int) (am_up σ 108 (S.length : Int) c 108) = rl (S.length : Int) (σ 108) := rl_congr (fun i i0 i1 => by rw [am_up_eq, if_neg (by omega)])
    rw [e, h5]
    rfl
theorem cds_snoc {x a b : Int} {s : AS} (h1 : rl (m.length : Int) (fun j => (s 106 (x + j), s 107 (x + j))) = m) (h2 : s 106 (x + m.length) = a) (h3 : s 107 (x + m.length) = b) : cds s x (m ++ [(a, b)]) := by
  unfold cds
  rw [List.length_append, List.length_singleton, show ((m.length + 1 : Nat) : Int) = (m.length : Int) + 1 by omega, rl_succ _ (by omega), h1, h2, h3]
/-- one more emitted; what stays stacked may be less -/
theorem sp_emitM {a b : Int} (hT : MTp ch n r σ) (h : MPr r c0 q op bh S m σ0 σ) (hr : 0 ≤ r ∧ r < 20) (hc : 0 ≤ c0) (hroom : c0 + m.length < 160) : am_M Ln (d + 2) 155 [vR 82, vI a, vI b] σ (am_rV fun s => s = am_up (am_up (am_up σ 106 (160 * r + c0 + m.length) a) 107 (160 * r + c0 + m.length) b) 82 39 (c0 + m.length + 1) ∧ cds s (160 * r + c0) (m ++ [(a, b)])) := by
  obtain ⟨h1, h2, ⟨p1, p2, p3, p4, p5, p6, p7⟩, h4, h5, h6⟩ := h
  refine vm_X12_emit _ _ _ (cI (sp_goodG p2) ?_)
  rintro r2 s1 ⟨rfl, rfl⟩
  refine ⟨fun z => absurd z (by decide), fun _ => ?_⟩
  rw [hT.2.1, p3, w32_id (x := 160 * r) (by omega) (by omega), w32_id (x := 160 * r + (c0 + (m.length : Int))) (by omega) (by omega), w32_id (x := c0 + (m.length : Int) + 1) (by omega) (by omega), show 160 * r + (c0 + (m.length : Int)) = 160 * r + c0 + m.length by omega]
  refine ⟨by omega, by omega, rfl, ?_⟩
  refine cds_snoc ?_ ?_ ?_
  · refine Eq.trans ?_ h4
    refine rl_congr (fun j j0 j1 => ?_)
    rw [am_up_ne (by decide : 106 ≠ 82), am_up_ne (by decide : 107 ≠ 82), am_up_ne (by decide : 106 ≠ 107), am_up_eq, am_up_eq, if_neg (by omega), if_neg (by omega), am_up_ne (by decide : 107 ≠ 106)]
  · rw [am_up_ne (by decide), am_up_ne (by decide), am_up_eq, if_pos rfl]
  · rw [am_up_ne (by decide), am_up_eq, if_pos rfl]
theorem MPr_emit {a b : Int} {s : AS} (h : MPr r c0 q op bh S m σ0 σ) (hs : s = am_up (am_up (am_up σ 106 (160 * r + c0 + m.length) a) 107 (160 * r + c0 + m.length) b) 82 39 (c0 + m.length + 1)) (hcd : cds s (160 * r + c0) (m ++ [(a, b)])) {q' op' : Int} {S' : List Int} {s' : AS} (hf : Fr [] [(82, 35), (82, 40), (82, 41)] s s') (h35 : s' 82 35 = q') (h40 : s' 82 40 = op') (h41 : s' 82 41 = S'.length) (hS : (rl (S'.length : Int) (σ 108)).reverse = S') (hq : c0 + m.length + 1 + S'.length ≤ q') : MPr r c0 q' op' bh S' (m ++ [(a, b)]) σ0 s' := by
  obtain ⟨h1, h2, ⟨p1, p2, p3, p4, p5, p6, p7⟩, h4, h5, h6⟩ := h
  have g1 : Fr [106, 107] [(82, 39)] σ s := by
    rw [hs]
    exact Fr.up (Fr.up (Fr.up Fr.rf (Or.inl (by decide))) (Or.inl (by decide))) (Or.inr (by decide))
  have e39 : s 82 39 = c0 + m.length + 1 := by rw [hs, am_up_eq, if_pos rfl]
  have lo : ∀ j : Int, j < 160 * r + c0 → s 106 j = σ 106 j ∧ s 107 j = σ 107 j := fun j hj => by
    rw [hs, am_up_ne (by decide : 106 ≠ 82), am_up_ne (by decide : 107 ≠ 82), am_up_ne (by decide : 106 ≠ 107), am_up_eq, am_up_eq, if_neg (by omega), if_neg (by omega), am_up_ne (by decide : 107 ≠ 106)]
    exact ⟨rfl, rfl⟩
  refine ⟨h1.tr ((g1.mo (by decide) (by decide)).tr (hf.mo (by decide) (by decide))), fun j hj => ?_, ⟨h35, ?_, ?_, h40, h41, ?_, ?_⟩, ?_, ?_, ?_⟩
  · rw [hf.cell 106 (by decide), hf.cell 107 (by decide), (lo j hj).1, (lo j hj).2]
    exact h2 j hj
  · rw [hf.fld 82 37 (by decide), g1.fld 82 37 (by decide)]; exact p2
  · rw [hf.fld 82 39 (by decide), e39, List.length_append, List.length_singleton]; omega
  · rw [hf.fld 82 42 (by decide), g1.fld 82 42 (by decide)]; exact p6
  · rw [hf.fld 82 43 (by decide), g1.fld 82 43 (by decide)]; exact p7
  · unfold cds at hcd ⊢
    rw [hf.cell 106 (by decide), hf.cell 107 (by decide)]
    exact hcd
  · rw [hf.cell 108 (by decide), g1.cell 108 (by decide)]; exact hS
  · rw [List.length_append, List.length_singleton]; omega
/-- the top is emitted and taken away -/
theorem sp_flush1 {c a : Int} {K : AS → Prop} (hT : MTp ch n r σ) (h : MPr r c0 q op bh (c :: S) m σ0 σ) (hr : 0 ≤ r ∧ r < 20) (hc : 0 ≤ c0) (hq : q ≤ 160) {op' : Int} {f : AS → AS} (hf : ∀ s : AS, s 82 41 = ((c :: S).length : Nat) → s 82 40 = op → Fr [] [(82, 35), (82, 40), (82, 41)] s (f s) ∧ (f s) 82 35 = s 82 35 ∧ (f s) 82 40 = op' ∧ (f s) 82 41 = S.length) (hK : ∀ s, MPr r c0 q op' bh S (m ++ [(a, 0)]) σ0 s → K s) :
    ∃ T : Option AV → AS → Prop, am_M Ln (d + 2) 155 [vR 82, vI a, vI 0] σ T ∧ ∀ s5, T none s5 → K (f s5) := by
  have h6 := h.2.2.2.2.2
  rw [List.length_cons] at h6
  refine cV (sp_emitM hT h hr hc (by omega)) ?_
  rintro s5 ⟨h5, hcd⟩
  have g1 : Fr [106, 107] [(82, 39)] σ s5 := by
    rw [h5]
    exact Fr.up (Fr.up (Fr.up Fr.rf (Or.inl (by decide))) (Or.inl (by decide))) (Or.inr (by decide))
  obtain ⟨f1, f2, f3, f4⟩ := hf s5 (by rw [g1.fld 82 41 (by decide)]; exact h.2.2.1.2.2.2.2.1) (by rw [g1.fld 82 40 (by decide)]; exact h.2.2.1.2.2.2.1)
  exact hK _ (MPr_emit h h5 hcd f1 (by rw [f2, g1.fld 82 35 (by decide)]; exact h.2.2.1.1) f3 f4 (stk_top h).2 (by omega))
end MB1
