/-! calls that write into the books -/
def bkP : List (Nat × Nat) := [(84, 5), (85, 6), (86, 8), (87, 9), (88, 10), (89, 11), (90, 13), (91, 14), (92, 15), (93, 16), (94, 17), (95, 12), (109, 20), (110, 21), (111, 22), (112, 23)]
def bkQ : List ((Nat × Int) × (Nat × Int)) := [((82, 1), (2, 1)), ((82, 2), (1, 10)), ((82, 3), (1, 11)), ((82, 4), (4, 2)), ((82, 5), (1, 12)), ((82, 6), (7, 11)), ((82, 7), (24, 14)), ((82, 8), (19, 4)), ((82, 9), (76, 3)), ((82, 10), (70, 6))]
def tchP (cs : List Nat) (fs : List (Nat × Int)) (q : Nat × Nat) : Bool := cs.contains q.1 || cs.contains q.2 || (fs.map Prod.fst).contains q.1 || (fs.map Prod.fst).contains q.2
def tchQ (cs : List Nat) (fs : List (Nat × Int)) (q : (Nat × Int) × (Nat × Int)) : Bool := cs.contains q.1.1 || cs.contains q.2.1 || fs.contains q.1 || fs.contains q.2
theorem BK_iff {C : AS} : BK C ↔ (∀ q ∈ bkP, C q.1 = C q.2) ∧ ∀ q ∈ bkQ, C q.1.1 q.1.2 = C q.2.1 q.2.2 := by
  unfold BK bkP bkQ
  simp only [List.forall_mem_cons, List.not_mem_nil, false_implies, implies_true, and_true]
  constructor
  · rintro ⟨⟨a1, a2, a3, a4, a5, a6, a7, a8, a9, a10, a11, a12⟩, ⟨b1, b2, b3, b4⟩, c⟩
    exact ⟨⟨a1, a2, a3, a4, a5, a6, a7, a8, a9, a10, a11, a12, b1, b2, b3, b4⟩, c⟩
  · rintro ⟨⟨a1, a2, a3, a4, a5, a6, a7, a8, a9, a10, a11, a12, b1, b2, b3, b4⟩, c⟩
    exact ⟨⟨a1, a2, a3, a4, a5, a6, a7, a8, a9, a10, a11, a12⟩, ⟨b1, b2, b3, b4⟩, c⟩
theorem BK_up {σ σ' : AS} {cs : List Nat} {fs : List (Nat × Int)} (LP : List (Nat × Nat)) (LQ : List ((Nat × Int) × (Nat × Int))) (h : BK σ) (hf : Fr cs fs σ σ') (eP : bkP.filter (tchP cs fs) = LP) (eQ : bkQ.filter (tchQ cs fs) = LQ) (hP : ∀ q ∈ LP, σ' q.1 = σ' q.2) (hQ : ∀ q ∈ LQ, σ' q.1.1 q.1.2 = σ' q.2.1 q.2.2) : BK σ' := by
  rw [BK_iff] at h ⊢
  refine ⟨fun q hq => ?_, fun q hq => ?_⟩
  · by_cases ht : tchP cs fs q = true
    · exact hP q (by rw [← eP]; exact List.mem_filter.mpr ⟨hq, ht⟩)
    · unfold tchP at ht
      simp only [Bool.or_eq_true, List.contains_eq_mem, decide_eq_true_eq, not_or] at ht
      rw [hf.cell q.1 ⟨ht.1.1.1, ht.1.2⟩, hf.cell q.2 ⟨ht.1.1.2, ht.2⟩]
      exact h.1 q hq
  · by_cases ht : tchQ cs fs q = true
    · exact hQ q (by rw [← eQ]; exact List.mem_filter.mpr ⟨hq, ht⟩)
    · unfold tchQ at ht
      simp only [Bool.or_eq_true, List.contains_eq_mem, decide_eq_true_eq, not_or] at ht
      rw [hf.fld q.1.1 q.1.2 ⟨ht.1.1.1, ht.1.2⟩, hf.fld q.2.1 q.2.2 ⟨ht.1.1.2, ht.2⟩]
      exact h.2 q hq
theorem Fr.cs {cs : List Nat} {fs : List (Nat × Int)} {σ σ' : AS} (h : Fr cs fs σ σ') (L : List Nat) (hL : L.all (fun c => !cs.contains c && !(fs.map Prod.fst).contains c) = true) : ∀ c ∈ L, σ' c = σ c := by
  simp only [List.all_eq_true, Bool.and_eq_true, Bool.not_eq_true', List.contains_eq_mem, decide_eq_false_iff_not] at hL
  exact fun c hc => h.cell c (hL c hc)
theorem Fr.fls {cs : List Nat} {fs : List (Nat × Int)} {σ σ' : AS} (h : Fr cs fs σ σ') (L : List (Nat × Int)) (hL : L.all (fun q => !cs.contains q.1 && !fs.contains q) = true) : ∀ q ∈ L, σ' q.1 q.2 = σ q.1 q.2 := by
  simp only [List.all_eq_true, Bool.and_eq_true, Bool.not_eq_true', List.contains_eq_mem, decide_eq_false_iff_not] at hL
  exact fun q hq => h.fld q.1 q.2 (hL q hq)
theorem one_mem {α : Type} {P : α → Prop} {a : α} (h : P a) : ∀ q ∈ [a], P q := fun q hq => by rw [List.mem_singleton.mp hq]; exact h
theorem no_mem {α : Type} {P : α → Prop} : ∀ q ∈ ([] : List α), P q := fun q hq => by cases hq
def upF (c : Prop) (v w : Int) (σ σu : AS) (r : Int) (s : AS) : Prop := (c → r = v ∧ s = σu) ∧ (¬ c → r = w ∧ s = σ)
theorem upN {c : Prop} {v w : Int} {σ σu : AS} (h : ¬ c) : upF c v w σ σu w σ := ⟨fun q => absurd q h, fun _ => ⟨rfl, rfl⟩⟩
theorem upY {c : Prop} {v w : Int} {σ σu : AS} (h : c) : upF c v w σ σu v σu := ⟨fun _ => ⟨rfl, rfl⟩, fun q => absurd h q⟩
theorem pr_up {Ln : Int} {mx mm : Nat} {ax am : List AV} {σ σu σw : AS} {n : Nat} {G : Int → GF} {c : Prop} {v w : Int} (hI : INV σ n G) (e1 : σu 0 = σ 0) (e2 : σw 0 = σ 0) (h1 : am_M Ln 1000 mx ax σ (am_rI (upF c v w σ σu))) (h2 : c → am_M Ln 1000 mm am σu (am_rI fun r s => r = v ∧ s = σw)) (h3 : ¬ c → am_M Ln 1000 mm am σ (am_rI fun r s => r = w ∧ s = σ)) (h4 : c → ∃ n G, INV σw n G) : PR Ln mx ax mm am σ := by
  refine am_MI h1 ?_
  rintro r s ⟨a1, a2⟩
  by_cases q : c
  · obtain ⟨rfl, rfl⟩ := a1 q
    refine ⟨e1, am_MI (h2 q) ?_⟩
    rintro r' s' ⟨rfl, rfl⟩
    exact ⟨rfl, e2, h4 q⟩
  · obtain ⟨rfl, rfl⟩ := a2 q
    refine ⟨rfl, am_MI (h3 q) ?_⟩
    rintro r' s' ⟨rfl, rfl⟩
    exact ⟨rfl, rfl, n, G, hI⟩
theorem OKB_up {σ σ' : AS} {n n' : Nat} (h : OKB σ n) (hB : BK σ') (h11 : σ' 1 11 = n') (hn : n ≤ n') (hn' : n' ≤ 10) (h19 : σ' 19 4 ≤ 100) (h7 : σ' 7 11 = σ 7 11) (hc : ∀ c ∈ [8, 9, 10, 11, 13, 14, 18], σ' c = σ c) (h5 : 0 < σ 7 11 → ∀ p : Int, 0 ≤ p → p < 10 → 0 ≤ σ' 5 p ∧ σ' 5 p < n') : OKB σ' n' := by
  obtain ⟨k1, k2, k3, k4, k5, k6, k7⟩ := h
  refine ⟨hB, h11, hn', h19, by rw [h7]; exact k5, ?_, fun i a b => ?_⟩
  · unfold SI ahd at k6 ⊢
    rw [h7, hc 13 (by decide), hc 14 (by decide), hc 18 (by decide)]
    exact k6
  · rw [h7] at b
    obtain ⟨⟨l1, l2, l3, l4, l5, l6, l7⟩, l8, l9⟩ := k7 i a b
    have h5' := h5 (by omega)
    unfold lv lvn
    rw [hc 8 (by decide), hc 9 (by decide), hc 10 (by decide), hc 11 (by decide)]
    exact ⟨⟨l1, l2, l3, l4, l5, l6, fun p u v => by have := h5' p u v; omega⟩, fun q => by have := l8 q; omega, fun p u v => (h5' p u v).2⟩
theorem OKB_5 {σ : AS} {n : Nat} (h : OKB σ n) : 0 < σ 7 11 → ∀ p : Int, 0 ≤ p → p < 10 → 0 ≤ σ 5 p ∧ σ 5 p < n := by
  intro h0 p a b
  obtain ⟨⟨-, -, -, -, -, -, l7⟩, -, l9⟩ := h.2.2.2.2.2.2 0 (by omega) h0
  exact ⟨(l7 p a b).1, l9 p a b⟩
section UP
variable {Ln : Int} {σ : AS} {n : Nat} {G : Int → GF}
theorem pr_now (hI : INV σ n G) (a : Int) : PR Ln 92 [vR 1, vI a] 140 [vR 82, vI a] σ := by
  obtain ⟨h1, h2, h3, h4, h5, h6, h7, h8⟩ := id hI
  have e2 : σ 82 2 = σ 1 10 := h1.1.2.2.2.1
  have hN := h4.1
  obtain ⟨τ, hτ⟩ : ∃ τ, τ = am_up (am_up σ 1 10 a) 82 2 a := ⟨_, rfl⟩
  have fτ : Fr [] [(1, 10), (82, 2)] σ τ := by rw [hτ]; exact Fr.up (Fr.up Fr.rf (Or.inr (by decide))) (Or.inr (by decide))
  have t1 : τ 1 10 = a := by rw [hτ, am_up_ne (by decide), am_up_eq, if_pos rfl]
  have t2 : τ 82 2 = a := by rw [hτ, am_up_eq, if_pos rfl]
  refine pr_up (c := (0 ≤ a ∧ a ≤ 3999) ∧ σ 1 10 ≤ a) (v := 1) (w := 0) (σu := am_up σ 1 10 a) (σw := τ) hI (am_up_ne (by decide)) (fτ.cell 0 (by decide)) ?_ (fun hc => ?_) (fun hc => ?_) (fun hc => ⟨n, G, ?_⟩)
  · exact vm_X11_now _ _ (cG sp_cDay (fun h => ⟨am_b0, upN (fun q => h q.1)⟩) (fun g1 => ⟨fun h => ⟨am_b1, upY ⟨g1, h⟩⟩, fun h => ⟨am_b0, upN (fun q => h q.2)⟩⟩))
  · refine vm_X12_now _ _ ?_
    rw [am_up_ne (by decide), e2]
    refine cG sp_mlies (fun h => absurd ⟨hc.2, hc.1.2⟩ h) (fun _ => ⟨am_b1, rfl, ?_⟩)
    rw [hτ]
  · refine vm_X12_now _ _ ?_
    rw [e2]
    exact cG sp_mlies (fun h => ⟨am_b0, rfl, rfl⟩) (fun h => absurd ⟨⟨by omega, h.2⟩, h.1⟩ hc)
  · refine ⟨OKB_up h1 (BK_up [] [((82, 2), (1, 10))] h1.1 fτ (by decide) (by decide) no_mem (one_mem (by show τ 82 2 = τ 1 10; rw [t1, t2]))) (by rw [fτ.fld 1 11 (by decide)]; exact h1.2.1) (Nat.le_refl n) h1.2.2.1 (by rw [fτ.fld 19 4 (by decide)]; exact h1.2.2.2.1) (fτ.fld 7 11 (by decide)) (fτ.cs _ (by decide)) (by rw [fτ.cell 5 (by decide)]; exact OKB_5 h1), OKD_cg (fτ.cell 13 (by decide)) (fτ.fld 7 11 (by decide)) h2, RB_cg (fτ.cs RBC (by decide)) (fτ.fld 24 14 (by decide)) h3, ?_, TP_cg (fτ.cell 3 (by decide)) (fτ.cell 83 (by decide)) (fτ.fld 2 1 (by decide)) h5, CH_cg (fτ.cell 71 (by decide)) (fτ.cell 129 (by decide)) (fτ.fld 4 2 (by decide)) (fτ.fld 70 4 (by decide)) h6, BA_cg (fτ.cs BAC (by decide)) (fτ.fld 70 6 (by decide)) h7, DE_cg (fτ.cs DEC (by decide)) (fτ.fld 76 3 (by decide)) h8.1, TH_cg (fτ.fld 7 11 (by decide)) (Int.le_of_eq (fτ.fld 1 12 (by decide)).symm) (fτ.cell 8 (by decide)) (fτ.cell 10 (by decide)) (fτ.cell 14 (by decide)) (fτ.cell 15 (by decide)) h8.2⟩
    obtain ⟨u1, u2, u3, u4, u5, u6, u7⟩ := h4
    unfold NU
    rw [t1, fτ.fld 4 2 (by decide), fτ.fld 1 12 (by decide), fτ.fld 19 4 (by decide), fτ.cell 5 (by decide), fτ.cell 121 (by decide)]
    exact ⟨hc.1, u2, u3, u4, u5, u6, u7⟩
theorem pr_person (hI : INV σ n G) : PR Ln 93 [vR 1] 141 [vR 82] σ := by
  obtain ⟨h1, h2, h3, h4, h5, h6, h7, h8⟩ := id hI
  have e2 : σ 82 3 = σ 1 11 := h1.1.2.2.2.2.1
  have hn := h1.2.1
  have hn2 := h1.2.2.1
  obtain ⟨τ, hτ⟩ : ∃ τ, τ = am_up (am_up σ 1 11 (σ 1 11 + 1)) 82 3 (σ 1 11 + 1) := ⟨_, rfl⟩
  have fτ : Fr [] [(1, 11), (82, 3)] σ τ := by rw [hτ]; exact Fr.up (Fr.up Fr.rf (Or.inr (by decide))) (Or.inr (by decide))
  have t1 : τ 1 11 = σ 1 11 + 1 := by rw [hτ, am_up_ne (by decide), am_up_eq, if_pos rfl]
  have t2 : τ 82 3 = σ 1 11 + 1 := by rw [hτ, am_up_eq, if_pos rfl]
  refine pr_up (c := σ 1 11 < 10) (v := σ 1 11) (w := -1) (σu := am_up σ 1 11 (σ 1 11 + 1)) (σw := τ) hI (am_up_ne (by decide)) (fτ.cell 0 (by decide)) ?_ (fun hc => ?_) (fun hc => ?_) (fun hc => ⟨n + 1, G, ?_⟩)
  · refine vm_X11_person _ ?_
    rw [w32_id (x := σ 1 11 + 1) (by omega) (by omega), w32_id (x := σ 1 11 + 1 - 1) (by omega) (by omega), show σ 1 11 + 1 - 1 = σ 1 11 by omega]
    exact ⟨fun h => upY h, fun h => upN h⟩
  · refine vm_X12_person _ ?_
    rw [am_up_ne (by decide), e2, w32_id (x := σ 1 11 + 1) (by omega) (by omega), w32_id (x := σ 1 11 + 1 - 1) (by omega) (by omega), show σ 1 11 + 1 - 1 = σ 1 11 by omega, ← hτ]
    exact ⟨fun h => absurd h (by omega), fun _ => ⟨rfl, rfl⟩⟩
  · refine vm_X12_person _ ?_
    rw [e2]
    exact ⟨fun h => ⟨rfl, rfl⟩, fun h => absurd (by omega) h⟩
  · refine ⟨OKB_up h1 (BK_up [] [((82, 3), (1, 11))] h1.1 fτ (by decide) (by decide) no_mem (one_mem (by show τ 82 3 = τ 1 11; rw [t1, t2]))) (by rw [t1, hn]; omega) (by omega) (by omega) (by rw [fτ.fld 19 4 (by decide)]; exact h1.2.2.2.1) (fτ.fld 7 11 (by decide)) (fτ.cs _ (by decide)) (by rw [fτ.cell 5 (by decide)]; exact fun h p a b => by have := OKB_5 h1 h p a b; omega), OKD_cg (fτ.cell 13 (by decide)) (fτ.fld 7 11 (by decide)) h2, RB_cg (fτ.cs RBC (by decide)) (fτ.fld 24 14 (by decide)) h3, ?_, TP_cg (fτ.cell 3 (by decide)) (fτ.cell 83 (by decide)) (fτ.fld 2 1 (by decide)) h5, CH_cg (fτ.cell 71 (by decide)) (fτ.cell 129 (by decide)) (fτ.fld 4 2 (by decide)) (fτ.fld 70 4 (by decide)) h6, BA_cg (fτ.cs BAC (by decide)) (fτ.fld 70 6 (by decide)) h7, ?_, TH_cg (fτ.fld 7 11 (by decide)) (Int.le_of_eq (fτ.fld 1 12 (by decide)).symm) (fτ.cell 8 (by decide)) (fτ.cell 10 (by decide)) (fτ.cell 14 (by decide)) (fτ.cell 15 (by decide)) h8.2⟩
    · obtain ⟨u1, u2, u3, u4, u5, u6, u7⟩ := h4
      unfold NU
      rw [fτ.fld 1 10 (by decide), fτ.fld 4 2 (by decide), fτ.fld 1 12 (by decide), fτ.fld 19 4 (by decide), fτ.cell 5 (by decide), fτ.cell 121 (by decide)]
      exact ⟨u1, u2, u3, u4, fun p a b => by have := u5 p a b; omega, fun h => by omega, u7⟩
    · obtain ⟨u1, u2, u3⟩ := h8.1
      unfold DE
      rw [fτ.fld 76 3 (by decide), fτ.cell 77 (by decide), fτ.cell 78 (by decide), fτ.cell 79 (by decide), fτ.cell 134 (by decide), fτ.cell 136 (by decide), fτ.cell 137 (by decide)]
      exact ⟨u1, u2, fun i a b => by have := u3 i a b; omega⟩
theorem pr_thing (hI : INV σ n G) : PR Ln 95 [vR 1] 143 [vR 82] σ := by
  obtain ⟨h1, h2, h3, h4, h5, h6, h7, h8⟩ := id hI
  have e2 : σ 82 5 = σ 1 12 := h1.1.2.2.2.2.2.2.1
  have hb := h4.2.2.1
  obtain ⟨τ, hτ⟩ : ∃ τ, τ = am_up (am_up σ 1 12 (σ 1 12 + 1)) 82 5 (σ 1 12 + 1) := ⟨_, rfl⟩
  have fτ : Fr [] [(1, 12), (82, 5)] σ τ := by rw [hτ]; exact Fr.up (Fr.up Fr.rf (Or.inr (by decide))) (Or.inr (by decide))
  have t1 : τ 1 12 = σ 1 12 + 1 := by rw [hτ, am_up_ne (by decide), am_up_eq, if_pos rfl]
  have t2 : τ 82 5 = σ 1 12 + 1 := by rw [hτ, am_up_eq, if_pos rfl]
  refine pr_up (c := σ 1 12 < 10) (v := σ 1 12) (w := -1) (σu := am_up σ 1 12 (σ 1 12 + 1)) (σw := τ) hI (am_up_ne (by decide)) (fτ.cell 0 (by decide)) ?_ (fun hc => ?_) (fun hc => ?_) (fun hc => ⟨n, G, ?_⟩)
  · refine vm_X11_thing _ ?_
    rw [w32_id (x := σ 1 12 + 1) (by omega) (by omega), w32_id (x := σ 1 12 + 1 - 1) (by omega) (by omega), show σ 1 12 + 1 - 1 = σ 1 12 by omega]
    exact ⟨fun h => upY h, fun h => upN h⟩
  · refine vm_X12_thing _ ?_
    rw [am_up_ne (by decide), e2, w32_id (x := σ 1 12 + 1) (by omega) (by omega), w32_id (x := σ 1 12 + 1 - 1) (by omega) (by omega), show σ 1 12 + 1 - 1 = σ 1 12 by omega, ← hτ]
    exact ⟨fun h => absurd h (by omega), fun _ => ⟨rfl, rfl⟩⟩
  · refine vm_X12_thing _ ?_
    rw [e2]
    exact ⟨fun h => ⟨rfl, rfl⟩, fun h => absurd (by omega) h⟩
  · refine ⟨OKB_up h1 (BK_up [] [((82, 5), (1, 12))] h1.1 fτ (by decide) (by decide) no_mem (one_mem (by show τ 82 5 = τ 1 12; rw [t1, t2]))) (by rw [fτ.fld 1 11 (by decide)]; exact h1.2.1) (Nat.le_refl n) h1.2.2.1 (by rw [fτ.fld 19 4 (by decide)]; exact h1.2.2.2.1) (fτ.fld 7 11 (by decide)) (fτ.cs _ (by decide)) (by rw [fτ.cell 5 (by decide)]; exact OKB_5 h1), OKD_cg (fτ.cell 13 (by decide)) (fτ.fld 7 11 (by decide)) h2, RB_cg (fτ.cs RBC (by decide)) (fτ.fld 24 14 (by decide)) h3, ?_, TP_cg (fτ.cell 3 (by decide)) (fτ.cell 83 (by decide)) (fτ.fld 2 1 (by decide)) h5, CH_cg (fτ.cell 71 (by decide)) (fτ.cell 129 (by decide)) (fτ.fld 4 2 (by decide)) (fτ.fld 70 4 (by decide)) h6, BA_cg (fτ.cs BAC (by decide)) (fτ.fld 70 6 (by decide)) h7, DE_cg (fτ.cs DEC (by decide)) (fτ.fld 76 3 (by decide)) h8.1, TH_cg (fτ.fld 7 11 (by decide)) (by rw [t1]; omega) (fτ.cell 8 (by decide)) (fτ.cell 10 (by decide)) (fτ.cell 14 (by decide)) (fτ.cell 15 (by decide)) h8.2⟩
    obtain ⟨u1, u2, u3, u4, u5, u6, u7⟩ := h4
    unfold NU
    rw [fτ.fld 1 10 (by decide), fτ.fld 4 2 (by decide), t1, fτ.fld 19 4 (by decide), fτ.cell 5 (by decide), fτ.cell 121 (by decide)]
    exact ⟨u1, u2, by omega, u4, u5, u6, u7⟩
theorem pr_purse (hI : INV σ n G) (a b : Int) : PR Ln 94 [vR 1, vI a, vI b] 142 [vR 82, vI a, vI b] σ := by
  obtain ⟨h1, h2, h3, h4, h5, h6, h7, h8⟩ := id hI
  have e2 : σ 82 4 = σ 4 2 := h1.1.2.2.2.2.2.1
  have hb := h4.2.1
  have hn := h1.2.1
  have hnn := INV_n hI
  have hB := h1.1
  have e84 : σ 84 = σ 5 := hB.1.1
  have e85 : σ 85 = σ 6 := hB.1.2.1
  obtain ⟨ρ, hρ⟩ : ∃ ρ, ρ = am_up (am_up (am_up σ 5 (σ 4 2) a) 6 (σ 4 2) b) 4 2 (σ 4 2 + 1) := ⟨_, rfl⟩
  obtain ⟨τ, hτ⟩ : ∃ τ, τ = am_up (am_up (am_up ρ 84 (σ 4 2) a) 85 (σ 4 2) b) 82 4 (σ 4 2 + 1) := ⟨_, rfl⟩
  have fρ : Fr [5, 6] [(4, 2)] σ ρ := by rw [hρ]; exact Fr.up (Fr.up (Fr.up Fr.rf (Or.inl (by decide))) (Or.inl (by decide))) (Or.inr (by decide))
  have fτ : Fr [5, 6, 84, 85] [(4, 2), (82, 4)] σ τ := by rw [hτ]; exact Fr.up (Fr.up (Fr.up (fρ.mo (by decide) (by decide)) (Or.inl (by decide))) (Or.inl (by decide))) (Or.inr (by decide))
  have t5 : τ 5 = fu (σ 5) (σ 4 2) a := by
    rw [hτ, am_up_ne (by decide), am_up_ne (by decide), am_up_ne (by decide), hρ, am_up_ne (by decide), am_up_ne (by decide), up_zc, zc_eq]
  have t6 : τ 6 = fu (σ 6) (σ 4 2) b := by
    rw [hτ, am_up_ne (by decide), am_up_ne (by decide), am_up_ne (by decide), hρ, am_up_ne (by decide), up_zc, zc_eq, am_up_ne (by decide)]
  have t84 : τ 84 = fu (σ 5) (σ 4 2) a := by
    rw [hτ, am_up_ne (by decide), am_up_ne (by decide), up_zc, zc_eq, fρ.cell 84 (by decide), e84]
  have t85 : τ 85 = fu (σ 6) (σ 4 2) b := by
    rw [hτ, am_up_ne (by decide), up_zc, zc_eq, am_up_ne (by decide), fρ.cell 85 (by decide), e85]
  have t42 : τ 4 2 = σ 4 2 + 1 := by rw [hτ, am_up_ne (by decide), am_up_ne (by decide), am_up_ne (by decide), hρ, am_up_eq, if_pos rfl]
  have t824 : τ 82 4 = σ 4 2 + 1 := by rw [hτ, am_up_eq, if_pos rfl]
  have fw : Fr wkX wkF σ σ := Fr.rf
  refine pr_up (c := (0 ≤ a ∧ a < σ 1 11) ∧ (0 ≤ b ∧ b < 4) ∧ σ 4 2 < 10) (v := σ 4 2) (w := -1) (σu := ρ) (σw := τ) hI (fρ.cell 0 (by decide)) (fτ.cell 0 (by decide)) ?_ (fun hc => ?_) (fun hc => ?_) (fun hc => ⟨n, G, ?_⟩)
  · refine vm_X11_purse _ _ _ (cG sp_cPerson (fun h => upN (fun q => h q.1)) (fun g1 => ⟨fun h => upN (fun q => by omega), fun h => ⟨fun h2 => cI (P := fun r s => upF ((0 ≤ a ∧ a < σ 1 11) ∧ (0 ≤ b ∧ b < 4) ∧ σ 4 2 < 10) (σ 4 2) (-1) σ ρ r s) ?_ (fun r s q => q), fun h2 => upN (fun q => by omega)⟩⟩))
    refine vm_X5_add _ _ _ ?_
    rw [w32_id (x := σ 4 2 + 1) (by omega) (by omega), w32_id (x := σ 4 2 + 1 - 1) (by omega) (by omega), show σ 4 2 + 1 - 1 = σ 4 2 by omega, ← hρ]
    exact ⟨fun h3 => ⟨⟨by omega, by omega⟩, ⟨by omega, by omega⟩, upY ⟨g1, by omega, h3⟩⟩, fun h3 => upN (fun q => h3 q.2.2)⟩
  · have e4 : ρ 82 4 = σ 4 2 := by rw [fρ.fld 82 4 (by decide), e2]
    have e3 : ρ 82 3 = σ 1 11 := by rw [fρ.fld 82 3 (by decide)]; exact hB.2.2.2.2.1
    refine vm_X12_purse _ _ _ ?_
    rw [e4]
    refine ⟨fun h => absurd h (by omega), fun _ => cG (c := 0 ≤ a ∧ a < σ 1 11) ?_ (fun h => absurd hc.1 h) (fun _ => cG sp_mlies (fun h => absurd ⟨hc.2.1.1, by omega⟩ h) (fun _ => ?_))⟩
    · refine sp_mlb (a := a) (lo := 0) (hi := σ 1 11 - 1) (by omega) (fun Q h => vm_X12_isPerson _ _ ?_)
      rw [e3, w32_id (by omega) (by omega)]
      exact h
    · rw [e4, w32_id (x := σ 4 2 + 1) (by omega) (by omega), w32_id (x := σ 4 2 + 1 - 1) (by omega) (by omega), show σ 4 2 + 1 - 1 = σ 4 2 by omega, ← hτ]
      exact ⟨⟨by omega, by omega⟩, ⟨by omega, by omega⟩, rfl, rfl⟩
  · refine vm_X12_purse _ _ _ ?_
    rw [e2]
    refine ⟨fun h => ⟨rfl, rfl⟩, fun h3 => cG (sp_mPerson hB fw hnn) (fun h => ⟨rfl, rfl⟩) (fun g1 => cG sp_mlies (fun h => ⟨rfl, rfl⟩) (fun g2 => absurd ⟨g1, by omega, by omega⟩ hc))⟩
  · have h5n : ∀ p : Int, 0 ≤ p → p < 10 → 0 ≤ fu (σ 5) (σ 4 2) a p ∧ (fu (σ 5) (σ 4 2) a p = 0 ∨ fu (σ 5) (σ 4 2) a p < n) := by
      intro p u v
      unfold fu
      split
      · omega
      · exact h4.2.2.2.2.1 p u v
    refine ⟨OKB_up h1 (BK_up [(84, 5), (85, 6)] [((82, 4), (4, 2))] h1.1 fτ (by decide) (by decide) ?_ (one_mem (by show τ 82 4 = τ 4 2; rw [t42, t824]))) (by rw [fτ.fld 1 11 (by decide)]; exact h1.2.1) (Nat.le_refl n) h1.2.2.1 (by rw [fτ.fld 19 4 (by decide)]; exact h1.2.2.2.1) (fτ.fld 7 11 (by decide)) (fτ.cs _ (by decide)) (fun h p u v => ?_), OKD_cg (fτ.cell 13 (by decide)) (fτ.fld 7 11 (by decide)) h2, RB_cg (fτ.cs RBC (by decide)) (fτ.fld 24 14 (by decide)) h3, ?_, TP_cg (fτ.cell 3 (by decide)) (fτ.cell 83 (by decide)) (fτ.fld 2 1 (by decide)) h5, ?_, BA_cg (fτ.cs BAC (by decide)) (fτ.fld 70 6 (by decide)) h7, DE_cg (fτ.cs DEC (by decide)) (fτ.fld 76 3 (by decide)) h8.1, TH_cg (fτ.fld 7 11 (by decide)) (Int.le_of_eq (fτ.fld 1 12 (by decide)).symm) (fτ.cell 8 (by decide)) (fτ.cell 10 (by decide)) (fτ.cell 14 (by decide)) (fτ.cell 15 (by decide)) h8.2⟩
    · intro q hq
      simp only [List.mem_cons, List.not_mem_nil, or_false] at hq
      rcases hq with rfl | rfl
      · show τ 84 = τ 5; rw [t84, t5]
      · show τ 85 = τ 6; rw [t85, t6]
    · rw [t5]; have := h5n p u v; omega
    · obtain ⟨u1, u2, u3, u4, u5, u6, u7⟩ := h4
      unfold NU
      rw [fτ.fld 1 10 (by decide), t42, fτ.fld 1 12 (by decide), fτ.fld 19 4 (by decide), t5, fτ.cell 121 (by decide)]
      exact ⟨u1, by omega, u3, u4, h5n, fun _ => by omega, u7⟩
    · obtain ⟨u1, u2, u3⟩ := h6
      unfold CH
      rw [fτ.cell 71 (by decide), fτ.cell 129 (by decide), t42, fτ.fld 70 4 (by decide)]
      exact ⟨u1, fun p u v => ⟨(u2 p u v).1, fun h => (u2 p u v).2 (by omega)⟩, u3⟩
end UP
