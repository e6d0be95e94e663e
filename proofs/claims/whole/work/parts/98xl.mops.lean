/-! the model: what is taken off the stack, numbers -/
section ML
variable {Ln : Int} {d : Nat} {ch : Int → Int} {n r c0 q op bh : Int} {S : List Int} {m : List (Int × Int)} {σ0 σ : AS}
theorem up_self {k : Nat} {i : Int} : am_up σ k i (σ k i) = σ := by
  rw [up_zc]
  have : fu (σ k) i (σ k i) = σ k := by
    funext j
    rw [fu_app]
    by_cases e : j = i
    · rw [if_pos e, e]
    · rw [if_neg e]
  rw [this, zc_self]
theorem sp_wrongsB {f p : Int} (h : σ 82 37 < 0) : am_M Ln (d + 1) 153 [vR 82, vI f, vI p] σ (am_rV fun s => s = σ) :=
  vm_X12_wrongs _ _ _ ⟨fun z => absurd z (by omega), fun _ => up_self⟩
theorem MPr_op {op' : Int} (h : MPr r c0 q op bh S m σ0 σ) : MPr r c0 q op' bh S m σ0 (am_up σ 82 40 op') := by
  obtain ⟨h1, h2, ⟨p1, p2, p3, p4, p5, p6, p7⟩, h4, h5, h6⟩ := h
  refine ⟨h1.up (Or.inr (by decide)), fun j hj => by rw [am_up_ne (by decide), am_up_ne (by decide)]; exact h2 j hj, ⟨?_, ?_, ?_, ?_, ?_, ?_, ?_⟩, ?_, by rw [am_up_ne (by decide)]; exact h5, h6⟩
  · rw [am_up_eq, if_neg (by decide)]; exact p1
  · rw [am_up_eq, if_neg (by decide)]; exact p2
  · rw [am_up_eq, if_neg (by decide)]; exact p3
  · rw [am_up_eq, if_pos rfl]
  · rw [am_up_eq, if_neg (by decide)]; exact p5
  · rw [am_up_eq, if_neg (by decide)]; exact p6
  · rw [am_up_eq, if_neg (by decide)]; exact p7
  · unfold cds at h4 ⊢
    rw [am_up_ne (by decide), am_up_ne (by decide)]
    exact h4
theorem MPr_bh {bh' : Int} (h : MPr r c0 q op bh S m σ0 σ) : MPr r c0 q op bh' S m σ0 (am_up σ 82 43 bh') := by
  obtain ⟨h1, h2, ⟨p1, p2, p3, p4, p5, p6, p7⟩, h4, h5, h6⟩ := h
  refine ⟨h1.up (Or.inr (by decide)), fun j hj => by rw [am_up_ne (by decide), am_up_ne (by decide)]; exact h2 j hj, ⟨?_, ?_, ?_, ?_, ?_, ?_, ?_⟩, ?_, by rw [am_up_ne (by decide)]; exact h5, h6⟩
  · rw [am_up_eq, if_neg (by decide)]; exact p1
  · rw [am_up_eq, if_neg (by decide)]; exact p2
  · rw [am_up_eq, if_neg (by decide)]; exact p3
  · rw [am_up_eq, if_neg (by decide)]; exact p4
  · rw [am_up_eq, if_neg (by decide)]; exact p5
  · rw [am_up_eq, if_neg (by decide)]; exact p6
  · rw [am_up_eq, if_pos rfl]
  · unfold cds at h4 ⊢
    rw [am_up_ne (by decide), am_up_ne (by decide)]
    exact h4
theorem MPr_at {q' : Int} (h : MPr r c0 q op bh S m σ0 σ) (hq : q ≤ q') : MPr r c0 q' op bh S m σ0 (am_up σ 82 35 q') := by
  obtain ⟨h1, h2, ⟨p1, p2, p3, p4, p5, p6, p7⟩, h4, h5, h6⟩ := h
  refine ⟨h1.up (Or.inr (by decide)), fun j hj => by rw [am_up_ne (by decide), am_up_ne (by decide)]; exact h2 j hj, ⟨?_, ?_, ?_, ?_, ?_, ?_, ?_⟩, ?_, by rw [am_up_ne (by decide)]; exact h5, by omega⟩
  · rw [am_up_eq, if_pos rfl]
  · rw [am_up_eq, if_neg (by decide)]; exact p2
  · rw [am_up_eq, if_neg (by decide)]; exact p3
  · rw [am_up_eq, if_neg (by decide)]; exact p4
  · rw [am_up_eq, if_neg (by decide)]; exact p5
  · rw [am_up_eq, if_neg (by decide)]; exact p6
  · rw [am_up_eq, if_neg (by decide)]; exact p7
  · unfold cds at h4 ⊢
    rw [am_up_ne (by decide), am_up_ne (by decide)]
    exact h4
theorem sp_opens (hG : CG ch n (160 * r)) (hT : MTp ch n r σ) (h : MPr r c0 q op bh S m σ0 σ) (hq : 0 ≤ q ∧ q < n) (hc : 0 ≤ c0) (hop : 0 ≤ op ∧ op < 6) : am_M Ln (d + 2) 158 [vR 82] σ (am_rV (MPr r c0 (q + 1) (op + 1) bh (ch q :: S) m σ0)) := by
  have hn := hG.2.2.1
  have h40 : σ 82 40 = op := h.2.2.1.2.2.2.1
  refine vm_X12_opens _ ⟨fun z => absurd z (by omega), fun _ => ?_⟩
  rw [h40, w32_id (x := op + 1) (by omega) (by omega)]
  have h2 := MPr_op (op' := op + 1) h
  refine cI (sp_here (d := d) hG (MTp_fr hT (Fr.up Fr.rf (Or.inr (by decide)))) h2.2.2.1.1 hq.1) ?_
  rintro r6 s5 ⟨rfl, rfl⟩
  exact cV (sp_puts h2 (by omega) hc) (fun s h => h)
theorem sp_opensB (hG : CG ch n (160 * r)) (hT : MTp ch n r σ) (h : MPr r c0 q 6 bh S m σ0 σ) (hq : 0 ≤ q ∧ q < n) (hc : 0 ≤ c0) : am_M Ln (d + 2) 158 [vR 82] σ (am_rV (BAD r c0 (5, q) σ0)) := by
  have hn := hG.2.2.1
  have h40 : σ 82 40 = 6 := h.2.2.1.2.2.2.1
  have h35 : σ 82 35 = q := h.2.2.1.1
  have h41 : σ 82 41 = S.length := h.2.2.1.2.2.2.2.1
  have h6 := h.2.2.2.2.2
  refine vm_X12_opens _ ⟨fun _ => ?_, fun z => absurd h40 z⟩
  rw [h35]
  refine cV (sp_wrongs h.2.2.1.2.1 (by decide) (by omega)) ?_
  rintro s1 rfl
  have hb : BAD r c0 (5, q) σ0 (am_up (am_up σ 82 37 (-1000 * 5 - q)) 82 40 (w32 ((am_up σ 82 37 (-1000 * 5 - q)) 82 40 + 1))) := BAD_up (MPr_bad h) (by decide) (by decide)
  have f1 : Fr [] [(82, 37), (82, 40)] σ (am_up (am_up σ 82 37 (-1000 * 5 - q)) 82 40 (w32 ((am_up σ 82 37 (-1000 * 5 - q)) 82 40 + 1))) := Fr.up (Fr.up Fr.rf (Or.inr (by decide))) (Or.inr (by decide))
  refine cI (sp_here (d := d) hG (MTp_fr hT (f1.mo (by decide) (by decide))) (by rw [f1.fld 82 35 (by decide)]; exact h35) hq.1) ?_
  rintro r3 s2 ⟨rfl, rfl⟩
  refine cV (P := BAD r c0 (5, q) σ0) (vm_X12_puts _ _ ⟨?_, ?_⟩) (fun s h => h)
  · rw [f1.fld 82 41 (by decide), h41]; omega
  · exact BAD_up (BAD_up (BAD_st hb) (by decide) (by decide)) (by decide) (by decide)
theorem sp_isT {a : Int} : am_M Ln (d + 1) 162 [vI a] σ (am_rI fun v s => (v ≠ 0 ↔ isT a = true) ∧ s = σ) := by
  have e : isT a = true ↔ (a = 42 ∨ a = 47 ∨ a = 37) := decide_eq_true_iff
  refine vm_X12_isTimes _ _ ⟨fun z => ⟨am_b1, ⟨fun _ => e.mpr (Or.inl z), fun _ => by decide⟩, rfl⟩, fun z => ⟨fun y => ⟨am_b1, ⟨fun _ => e.mpr (Or.inr (Or.inl y)), fun _ => by decide⟩, rfl⟩, fun y => ⟨fun x => ⟨am_b1, ⟨fun _ => e.mpr (Or.inr (Or.inr x)), fun _ => by decide⟩, rfl⟩, fun x => ⟨am_b0, ⟨fun w => absurd rfl w, fun w => ?_⟩, rfl⟩⟩⟩⟩
  rcases e.mp w with v | v | v
  · exact absurd v z
  · exact absurd v y
  · exact absurd v x
theorem sp_isP {a : Int} : am_M Ln (d + 1) 163 [vI a] σ (am_rI fun v s => (v ≠ 0 ↔ isP a = true) ∧ s = σ) := by
  have e : isP a = true ↔ (a = 43 ∨ a = 45) := decide_eq_true_iff
  refine vm_X12_isPlus _ _ ⟨fun z => ⟨am_b1, ⟨fun _ => e.mpr (Or.inl z), fun _ => by decide⟩, rfl⟩, fun z => ⟨fun y => ⟨am_b1, ⟨fun _ => e.mpr (Or.inr y), fun _ => by decide⟩, rfl⟩, fun y => ⟨am_b0, ⟨fun w => absurd rfl w, fun w => ?_⟩, rfl⟩⟩⟩
  rcases e.mp w with v | v
  · exact absurd v z
  · exact absurd v y
theorem sp_isG {a : Int} : am_M Ln (d + 1) 164 [vI a] σ (am_rI fun v s => (v ≠ 0 ↔ isG a = true) ∧ s = σ) := by
  have e : isG a = true ↔ (a = 60 ∨ a = 62 ∨ a = 61) := decide_eq_true_iff
  refine vm_X12_isSign _ _ ⟨fun z => ⟨am_b1, ⟨fun _ => e.mpr (Or.inl z), fun _ => by decide⟩, rfl⟩, fun z => ⟨fun y => ⟨am_b1, ⟨fun _ => e.mpr (Or.inr (Or.inl y)), fun _ => by decide⟩, rfl⟩, fun y => ⟨fun x => ⟨am_b1, ⟨fun _ => e.mpr (Or.inr (Or.inr x)), fun _ => by decide⟩, rfl⟩, fun x => ⟨am_b0, ⟨fun w => absurd rfl w, fun w => ?_⟩, rfl⟩⟩⟩⟩
  rcases e.mp w with v | v | v
  · exact absurd v z
  · exact absurd v y
  · exact absurd v x
theorem sp_isV {a : Int} : am_M Ln (d + 1) 165 [vI a] σ (am_rI fun v s => (v ≠ 0 ↔ 0 ≤ fct a) ∧ s = σ) := by
  have yes : 0 ≤ fct a → am_b 1 ∧ (am_rI fun v s => (v ≠ 0 ↔ 0 ≤ fct a) ∧ s = σ) (some (vI 1)) σ := fun h => ⟨am_b1, ⟨fun _ => h, fun _ => by decide⟩, rfl⟩
  refine vm_X12_isValue _ _ ⟨fun z => yes (by rw [z]; decide), fun z1 => ⟨fun z => yes (by rw [z]; decide), fun z2 => ⟨fun z => yes (by rw [z]; decide), fun z3 => ⟨fun z => yes (by rw [z]; decide), fun z4 => ⟨fun z => yes (by rw [z]; decide), fun z5 => ⟨fun z => yes (by rw [z]; decide), fun z6 => ⟨fun z => yes (by rw [z]; decide), fun z7 => ⟨fun z => yes (by rw [z]; decide), fun z8 => ⟨am_b0, ⟨fun w => absurd rfl w, fun w => ?_⟩, rfl⟩⟩⟩⟩⟩⟩⟩⟩⟩
  unfold fct at w
  rw [if_neg z1, if_neg z2, if_neg z3, if_neg z4, if_neg z5, if_neg z6, if_neg z7, if_neg z8] at w
  exact absurd w (by decide)
theorem pop_f {k : Nat} {s : AS} (h41 : s 82 41 = ((k + 1 : Nat) : Int)) (hk : k ≤ 1000) : Fr [] [(82, 35), (82, 40), (82, 41)] s (am_up s 82 41 (w32 (s 82 41 - 1))) ∧ (am_up s 82 41 (w32 (s 82 41 - 1))) 82 35 = s 82 35 ∧ (am_up s 82 41 (w32 (s 82 41 - 1))) 82 40 = s 82 40 ∧ (am_up s 82 41 (w32 (s 82 41 - 1))) 82 41 = k := by
  rw [h41, w32_id (by omega) (by omega)]
  refine ⟨Fr.up Fr.rf (Or.inr (by decide)), ?_, ?_, ?_⟩
  · rw [am_up_eq, if_neg (by decide)]
  · rw [am_up_eq, if_neg (by decide)]
  · rw [am_up_eq, if_pos rfl]; omega
theorem lp_sums (hT : MTp ch n r σ0) (hr : 0 ≤ r ∧ r < 20) (hc : 0 ≤ c0) (hq : q ≤ 160) {x1 : Int} (hS1 : isT (S.headD 0) = false) (hS2 : x1 ≠ 0 → isP (S.headD 0) = false) : ∀ (pe : List Int) (m : List (Int × Int)) (σ : AS), MPr r c0 q op bh (pe ++ S) m σ0 σ → (∀ c ∈ pe, isT c = true ∨ (x1 ≠ 0 ∧ isP c = true)) →
    am_E Ln (d + 3) 166 0 [vR 82, vI x1] [] σ (am_rV (MPr r c0 q op bh S (m ++ pe.map (fun c => (c, 0))) σ0)) := by
  intro pe
  induction pe with
  | nil =>
    intro m σ h _
    rw [List.map_nil, List.append_nil]
    refine vl_X12_sums_0 _ _ (cI (sp_top (d := d + 2) h hq hc) ?_)
    rintro r2 s1 ⟨rfl, rfl⟩
    refine cI (sp_isT (d := d + 2)) ?_
    rintro r4 s3 ⟨ht, rfl⟩
    refine ⟨fun _ => ⟨fun _ => h, fun z => cI (sp_top (d := d + 2) h hq hc) ?_⟩, fun z => ?_⟩
    · rintro r6 s5 ⟨rfl, rfl⟩
      refine cI (sp_isP (d := d + 2)) ?_
      rintro r8 s7 ⟨hp, rfl⟩
      refine ⟨fun _ => h, fun y => ?_⟩
      have e1 := hS2 z
      have e2 := hp.mp y
      rw [List.nil_append, e1] at e2
      cases e2
    · have e2 := ht.mp z
      rw [List.nil_append, hS1] at e2
      cases e2
  | cons c pe ih =>
    intro m σ h hall
    have hT' := MTp_fr hT h.1
    have hlen := h.2.2.2.2.2
    rw [List.cons_append, List.length_cons] at hlen
    -- c is emitted
    have go : ∃ T : Option AV → AS → Prop, am_M Ln (d + 3) 156 [vR 82] σ T ∧ ∀ (r13 : Int) s12, T (some (vI r13)) s12 → ∃ T : Option AV → AS → Prop, am_M Ln (d + 3) 155 [vR 82, vI r13, vI 0] s12 T ∧ ∀ s14, T none s14 → am_E Ln (d + 3) 166 0 [vR 82, vI x1] [] (am_up s14 82 41 (w32 (s14 82 41 - 1))) (am_rV (MPr r c0 q op bh S (m ++ (c :: pe).map (fun c => (c, 0))) σ0)) := by
      refine cI (sp_top (d := d + 2) h hq hc) ?_
      rintro r13 s12 ⟨h13, rfl⟩
      rw [show r13 = c from h13]
      refine sp_flush1 (d := d + 1) (c := c) (a := c) (S := pe ++ S) (op' := op) (f := fun s => am_up s 82 41 (w32 (s 82 41 - 1))) hT' h hr hc hq (K := fun s => am_E Ln (d + 3) 166 0 [vR 82, vI x1] [] s (am_rV (MPr r c0 q op bh S (m ++ (c :: pe).map (fun c => (c, 0))) σ0))) (fun s e41 e40 => ?_) (fun s hs => ?_)
      · obtain ⟨a1, a2, a3, a4⟩ := pop_f (k := (pe ++ S).length) e41 (by omega)
        exact ⟨a1, a2, a3.trans e40, a4⟩
      · have := ih (m ++ [(c, 0)]) s hs (fun x hx => hall x (List.mem_cons_of_mem _ hx))
        rw [List.append_assoc] at this
        exact this
    refine vl_X12_sums_0 _ _ (cI (sp_top (d := d + 2) h hq hc) ?_)
    rintro r2 s1 ⟨h2, rfl⟩
    rw [show r2 = c from h2]
    refine cI (sp_isT (d := d + 2)) ?_
    rintro r4 s3 ⟨ht, rfl⟩
    refine ⟨fun z => ?_, fun _ => go⟩
    have hnt : ¬ isT c = true := fun y => (ht.mpr y) z
    rcases hall c List.mem_cons_self with y | ⟨y1, y2⟩
    · exact absurd y hnt
    · refine ⟨fun v => absurd v y1, fun _ => cI (sp_top (d := d + 2) h hq hc) ?_⟩
      rintro r6 s5 ⟨h6, rfl⟩
      rw [show r6 = c from h6]
      refine cI (sp_isP (d := d + 2)) ?_
      rintro r8 s7 ⟨hp, rfl⟩
      exact ⟨fun v => absurd (hp.mpr y2) (fun w => w v), fun _ => go⟩
theorem sp_sums (hT : MTp ch n r σ0) (hr : 0 ≤ r ∧ r < 20) (hc : 0 ≤ c0) (hq : q ≤ 160) {x1 : Int} (hS1 : isT (S.headD 0) = false) (hS2 : x1 ≠ 0 → isP (S.headD 0) = false) {pe : List Int} (h : MPr r c0 q op bh (pe ++ S) m σ0 σ) (hpe : ∀ c ∈ pe, isT c = true ∨ (x1 ≠ 0 ∧ isP c = true)) :
    am_M Ln (d + 4) 166 [vR 82, vI x1] σ (am_rV (MPr r c0 q op bh S (m ++ pe.map (fun c => (c, 0))) σ0)) := vm_X12_sums _ _ (lp_sums hT hr hc hq hS1 hS2 pe m σ h hpe)
theorem lp_joins (hT : MTp ch n r σ0) (hr : 0 ≤ r ∧ r < 20) (hc : 0 ≤ c0) (hq : q ≤ 160) {x1 : Int} (hS1 : S.headD 0 ≠ 38) (hS2 : x1 ≠ 0 → S.headD 0 ≠ 124) : ∀ (pe : List Int) (m : List (Int × Int)) (σ : AS), MPr r c0 q op bh (pe ++ S) m σ0 σ → (∀ c ∈ pe, c = 38 ∨ (x1 ≠ 0 ∧ c = 124)) →
    am_E Ln (d + 3) 167 0 [vR 82, vI x1] [] σ (am_rV (MPr r c0 q op bh S (m ++ pe.map (fun c => (c, 0))) σ0)) := by
  intro pe
  induction pe with
  | nil =>
    intro m σ h _
    rw [List.map_nil, List.append_nil]
    refine vl_X12_joins_0 _ _ (cI (sp_top (d := d + 2) h hq hc) ?_)
    rintro r2 s1 ⟨rfl, rfl⟩
    refine ⟨fun z => absurd z hS1, fun _ => ⟨fun _ => h, fun z => cI (sp_top (d := d + 2) h hq hc) ?_⟩⟩
    rintro r6 s5 ⟨rfl, rfl⟩
    exact ⟨fun y => absurd y (hS2 z), fun _ => h⟩
  | cons c pe ih =>
    intro m σ h hall
    have hT' := MTp_fr hT h.1
    have hlen := h.2.2.2.2.2
    rw [List.cons_append, List.length_cons] at hlen
    have go : ∃ T : Option AV → AS → Prop, am_M Ln (d + 3) 156 [vR 82] σ T ∧ ∀ (r13 : Int) s12, T (some (vI r13)) s12 → ∃ T : Option AV → AS → Prop, am_M Ln (d + 3) 155 [vR 82, vI r13, vI 0] s12 T ∧ ∀ s14, T none s14 → am_E Ln (d + 3) 167 0 [vR 82, vI x1] [] (am_up s14 82 41 (w32 (s14 82 41 - 1))) (am_rV (MPr r c0 q op bh S (m ++ (c :: pe).map (fun c => (c, 0))) σ0)) := by
      refine cI (sp_top (d := d + 2) h hq hc) ?_
      rintro r13 s12 ⟨h13, rfl⟩
      rw [show r13 = c from h13]
      refine sp_flush1 (d := d + 1) (c := c) (a := c) (S := pe ++ S) (op' := op) (f := fun s => am_up s 82 41 (w32 (s 82 41 - 1))) hT' h hr hc hq (K := fun s => am_E Ln (d + 3) 167 0 [vR 82, vI x1] [] s (am_rV (MPr r c0 q op bh S (m ++ (c :: pe).map (fun c => (c, 0))) σ0))) (fun s e41 e40 => ?_) (fun s hs => ?_)
      · obtain ⟨a1, a2, a3, a4⟩ := pop_f (k := (pe ++ S).length) e41 (by omega)
        exact ⟨a1, a2, a3.trans e40, a4⟩
      · have := ih (m ++ [(c, 0)]) s hs (fun x hx => hall x (List.mem_cons_of_mem _ hx))
        rw [List.append_assoc] at this
        exact this
    refine vl_X12_joins_0 _ _ (cI (sp_top (d := d + 2) h hq hc) ?_)
    rintro r2 s1 ⟨h2, rfl⟩
    rw [show r2 = c from h2]
    refine ⟨fun _ => go, fun z => ?_⟩
    rcases hall c List.mem_cons_self with y | ⟨y1, y2⟩
    · exact absurd y z
    · refine ⟨fun v => absurd v y1, fun _ => cI (sp_top (d := d + 2) h hq hc) ?_⟩
      rintro r6 s5 ⟨h6, rfl⟩
      rw [show r6 = c from h6]
      exact ⟨fun _ => go, fun v => absurd y2 v⟩
theorem sp_joins (hT : MTp ch n r σ0) (hr : 0 ≤ r ∧ r < 20) (hc : 0 ≤ c0) (hq : q ≤ 160) {x1 : Int} (hS1 : S.headD 0 ≠ 38) (hS2 : x1 ≠ 0 → S.headD 0 ≠ 124) {pe : List Int} (h : MPr r c0 q op bh (pe ++ S) m σ0 σ) (hpe : ∀ c ∈ pe, c = 38 ∨ (x1 ≠ 0 ∧ c = 124)) :
    am_M Ln (d + 4) 167 [vR 82, vI x1] σ (am_rV (MPr r c0 q op bh S (m ++ pe.map (fun c => (c, 0))) σ0)) := vm_X12_joins _ _ (lp_joins hT hr hc hq hS1 hS2 pe m σ h hpe)
theorem lp_ends (hT : MTp ch n r σ0) (hr : 0 ≤ r ∧ r < 20) (hc : 0 ≤ c0) (hq : q ≤ 160) (hS1 : S.headD 0 ≠ 33) : ∀ (b : Nat) (op : Int) (m : List (Int × Int)) (σ : AS), MPr r c0 q op bh (List.replicate b 33 ++ S) m σ0 σ → (b : Int) ≤ op ∧ op ≤ 100 →
    am_E Ln (d + 3) 168 0 [vR 82] [] σ (am_rV (MPr r c0 q (op - b) bh S (m ++ List.replicate b (2, 0)) σ0)) := by
  intro b
  induction b with
  | zero =>
    intro op m σ h _
    rw [List.replicate_zero, List.append_nil, show op - ((0 : Nat) : Int) = op by omega]
    refine vl_X12_ends_0 _ (cI (sp_top (d := d + 2) h hq hc) ?_)
    rintro r2 s1 ⟨rfl, rfl⟩
    exact ⟨fun z => absurd z hS1, fun _ => h⟩
  | succ b ih =>
    intro op m σ h hop
    have hT' := MTp_fr hT h.1
    rw [List.replicate_succ, List.cons_append] at h
    have hlen := h.2.2.2.2.2
    rw [List.length_cons] at hlen
    refine vl_X12_ends_0 _ (cI (sp_top (d := d + 2) h hq hc) ?_)
    rintro r2 s1 ⟨rfl, rfl⟩
    refine ⟨fun _ => ?_, fun z => absurd rfl z⟩
    refine sp_flush1 (d := d + 1) (c := 33) (a := 2) (S := List.replicate b 33 ++ S) (op' := op - 1) (f := fun s => am_up (am_up s 82 41 (w32 (s 82 41 - 1))) 82 40 (w32 (s 82 40 - 1))) hT' h hr hc hq (K := fun s => am_E Ln (d + 3) 168 0 [vR 82] [] s (am_rV (MPr r c0 q (op - ((b + 1 : Nat) : Int)) bh S (m ++ List.replicate (b + 1) (2, 0)) σ0))) (fun s e41 e40 => ?_) (fun s hs => ?_)
    · obtain ⟨a1, a2, a3, a4⟩ := pop_f (k := (List.replicate b 33 ++ S).length) e41 (by omega)
      refine ⟨Fr.up a1 (Or.inr (by decide)), ?_, ?_, ?_⟩
      · rw [am_up_eq, if_neg (by decide)]; exact a2
      · rw [am_up_eq, if_pos rfl, e40, w32_id (by omega) (by omega)]
      · rw [am_up_eq, if_neg (by decide)]; exact a4
    · have := ih (op - 1) (m ++ [(2, 0)]) s hs (by omega)
      rw [List.append_assoc, show op - 1 - (b : Int) = op - ((b + 1 : Nat) : Int) by omega] at this
      rw [List.replicate_succ]
      exact this
theorem sp_ends (hT : MTp ch n r σ0) (hr : 0 ≤ r ∧ r < 20) (hc : 0 ≤ c0) (hq : q ≤ 160) (hS1 : S.headD 0 ≠ 33) {b : Nat} (h : MPr r c0 q op bh (List.replicate b 33 ++ S) m σ0 σ) (hop : (b : Int) ≤ op ∧ op ≤ 100) : am_M Ln (d + 4) 168 [vR 82] σ (am_rV (MPr r c0 q (op - b) bh S (m ++ List.replicate b (2, 0)) σ0)) := vm_X12_ends _ (lp_ends hT hr hc hq hS1 b op m σ h hop)
/-! the model reads a number -/
def MNQ (r c0 op bh : Int) (S : List Int) (m : List (Int × Int)) (σ0 : AS) : Sum (Int × Int) (Int × Int) → Int → AS → Prop
  | .inl e, _, s => BAD r c0 e σ0 s
  | .inr x, v, s => v = x.2 ∧ MPr r c0 x.1 op bh S m σ0 s
theorem sp_seesDigit (hG : CG ch n (160 * r)) (hT : MTp ch n r σ) (h35 : σ 82 35 = q) (h0 : 0 ≤ q) : am_M Ln (d + 2) 159 [vR 82] σ (am_rI fun v s => (v ≠ 0 ↔ isD (ch q) = true) ∧ s = σ) := by
  refine vm_X12_seesDigit _ (cI (sp_here (d := d) hG hT h35 h0) ?_)
  rintro r2 s1 ⟨rfl, rfl⟩
  refine cI (sp_mlies (d := d)) ?_
  rintro r4 s3 ⟨h1, rfl⟩
  refine ⟨by rw [h1]; exact am_b_if, ?_, rfl⟩
  unfold isD
  rw [decide_eq_true_iff, h1]
  by_cases z : 48 ≤ ch q ∧ ch q ≤ 57
  · rw [if_pos z]; exact ⟨fun _ => z, fun _ => by decide⟩
  · rw [if_neg z]; exact ⟨fun y => absurd rfl y, fun y => absurd y z⟩
theorem BAD_neg {e : Int × Int} (h : BAD r c0 e σ0 σ) (he : (1 ≤ e.1 ∧ e.1 ≤ 5) ∧ 0 ≤ e.2) : σ 82 37 < 0 := by rw [h.2.2]; omega
theorem lp_readsB {lim start v : Int} {e : Int × Int} {R : Sum (Int × Int) (Int × Int)} (hR : R = .inl e) (h : BAD r c0 e σ0 σ) (he : (1 ≤ e.1 ∧ e.1 ≤ 5) ∧ 0 ≤ e.2) : am_E Ln (d + 3) 160 23 [vR 82, vI lim, vI start, vI v] [] σ (am_rI (MNQ r c0 op bh S m σ0 R)) := by
  subst hR
  have hb := BAD_neg h he
  refine vl_X12_reads_23 _ _ _ _ (cI (sp_goodB (by omega)) ?_)
  rintro r2 s1 ⟨rfl, rfl⟩
  refine ⟨fun _ => ⟨fun _ => h, fun _ => cV (sp_wrongsB hb) ?_⟩, fun z => absurd rfl z⟩
  rintro s3 rfl
  exact h
theorem lp_reads (hG : CG ch n (160 * r)) (hT : MTp ch n r σ0) {lim start : Int} (hs0 : 0 ≤ start) : ∀ (k : Nat) (q v : Int) (s : AS), k ≤ 6 → MPr r c0 q op bh S m σ0 s → start ≤ q → q ≤ n → q - start = 6 - k → 0 ≤ v → v < vb k →
    am_E Ln (d + 3) 160 23 [vR 82, vI lim, vI start, vI v] [] s (am_rI (MNQ r c0 op bh S m σ0 (nF lim start (dLoop ch k q v)))) := by
  have hn := hG.2.2.1
  have fin : ∀ (q v : Int) (s : AS) (R : Sum (Int × Int) (Int × Int)), MPr r c0 q op bh S m σ0 s → q ≤ n → start ≤ q → R = nF lim start (.inr (q, v)) → (v ≤ lim → (am_rI (MNQ r c0 op bh S m σ0 R)) (some (vI v)) s) ∧ (¬ (v ≤ lim) → ∃ T : Option AV → AS → Prop, am_M Ln (d + 3) 153 [vR 82, vI 3, vI start] s T ∧ ∀ s3, T none s3 → (am_rI (MNQ r c0 op bh S m σ0 R)) (some (vI v)) s3) := by
    intro q v s R h hq hsq hR
    subst hR
    unfold nF
    refine ⟨fun z => ?_, fun z => cV (sp_wrongs h.2.2.1.2.1 (by decide) (by omega)) ?_⟩
    · dsimp only
      rw [if_neg (by omega)]
      exact ⟨rfl, h⟩
    · rintro s3 rfl
      dsimp only
      rw [if_pos (by omega)]
      exact MPr_bad h
  intro k
  induction k with
  | zero =>
    intro q v s hk h hsq hq hqs hv0 hv1
    have hT' := MTp_fr hT h.1
    have h35 : s 82 35 = q := h.2.2.1.1
    refine vl_X12_reads_23 _ _ _ _ (cI (sp_goodG h.2.2.1.2.1) ?_)
    rintro r2 s1 ⟨rfl, rfl⟩
    refine ⟨fun z => absurd z (by decide), fun _ => cI (sp_seesDigit (d := d + 1) hG hT' h35 (by omega)) ?_⟩
    rintro r5 s4 ⟨hd, rfl⟩
    refine ⟨fun z => ?_, fun z => ?_⟩
    · exact fin q v s4 _ h hq hsq (by rw [dLoop, if_neg (fun y => (hd.mpr y) z)])
    · rw [h35, w32_id (x := start + 6) (by omega) (by omega)]
      refine ⟨fun _ => cV (sp_wrongs h.2.2.1.2.1 (by decide) (by omega)) ?_, fun y => absurd (by omega) y⟩
      rintro s7 rfl
      have f1 : Fr [] [(82, 37)] s4 (am_up s4 82 37 (-1000 * 2 - q)) := Fr.up Fr.rf (Or.inr (by decide))
      refine cI (sp_here (d := d + 2) (q := q) hG (MTp_fr hT' (f1.mo (by decide) (by decide))) (by rw [f1.fld 82 35 (by decide)]; exact h35) (by omega)) ?_
      rintro r9 s8 ⟨-, rfl⟩
      refine lp_readsB (e := (2, q)) ?_ (BAD_up (MPr_bad h) (by decide) (by decide)) ⟨by dsimp only; decide, by show 0 ≤ q; omega⟩
      rw [dLoop, if_pos (hd.mp z)]
      rfl
  | succ k ih =>
    intro q v s hk h hsq hq hqs hv0 hv1
    have hT' := MTp_fr hT h.1
    have h35 : s 82 35 = q := h.2.2.1.1
    have hvl := vb_le hk
    have hvs := vb_s (m := k) (by omega)
    refine vl_X12_reads_23 _ _ _ _ (cI (sp_goodG h.2.2.1.2.1) ?_)
    rintro r2 s1 ⟨rfl, rfl⟩
    refine ⟨fun z => absurd z (by decide), fun _ => cI (sp_seesDigit (d := d + 1) hG hT' h35 (by omega)) ?_⟩
    rintro r5 s4 ⟨hd, rfl⟩
    refine ⟨fun z => ?_, fun z => ?_⟩
    · exact fin q v s4 _ h hq hsq (by rw [dLoop, if_neg (fun y => (hd.mpr y) z)])
    · have hd' := hd.mp z
      have hr : 48 ≤ ch q ∧ ch q ≤ 57 := of_decide_eq_true hd'
      have hqlt : q < n := by
        by_cases y : n ≤ q
        · have := hG.1 q y; omega
        · omega
      rw [h35, w32_id (x := start + 6) (by omega) (by omega)]
      refine ⟨fun y => absurd y (by omega), fun _ => cI (sp_here (d := d + 2) hG hT' h35 (by omega)) ?_⟩
      rintro r11 s10 ⟨rfl, rfl⟩
      rw [h35, w32_id (x := q + 1) (by omega) (by omega), w32_id (x := 10 * v) (by omega) (by omega), w32_id (x := 10 * v + ch q) (by omega) (by omega), w32_id (x := 10 * v + ch q - 48) (by omega) (by omega), dLoop, if_pos hd']
      exact ih (q + 1) (10 * v + ch q - 48) _ (by omega) (MPr_at h (by omega)) (by omega) (by omega) (by omega) (by omega) (by omega)
theorem sp_reads (hG : CG ch n (160 * r)) (hT : MTp ch n r σ0) {lim : Int} (hl : 0 ≤ lim) (h : MPr r c0 q op bh S m σ0 σ) (hq : 0 ≤ q ∧ q ≤ n) : am_M Ln (d + 4) 160 [vR 82, vI lim] σ (am_rI (MNQ r c0 op bh S m σ0 (pNum ch lim q))) := by
  have hn := hG.2.2.1
  have hT' := MTp_fr hT h.1
  have h35 : σ 82 35 = q := h.2.2.1.1
  refine vm_X12_reads _ _ (cI (sp_seesDigit (d := d + 1) hG hT' h35 hq.1) ?_)
  rintro r2 s1 ⟨hd, rfl⟩
  rw [h35]
  refine ⟨fun z => cV (sp_wrongs h.2.2.1.2.1 (by decide) (by omega)) ?_, fun z => ?_⟩
  · rintro s3 rfl
    refine lp_readsB (e := (1, q)) ?_ (MPr_bad h) ⟨by dsimp only; decide, hq.1⟩
    unfold pNum
    rw [if_neg (fun y => (hd.mpr y) z)]
  · have key := lp_reads (Ln := Ln) (d := d) (lim := lim) hG hT hq.1 6 q 0 s1 (Nat.le_refl 6) h (Int.le_refl q) hq.2 (by omega) (by omega) (by decide)
    unfold pNum
    rw [if_pos (hd.mp z)]
    exact key
end ML
