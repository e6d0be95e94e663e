/-! the constructors, printed by wip/tools/gen_ctor.py: each step a row -/
/-- the references, the last set first -/
def ao_L : List (Nat × Nat) := [(82, 81), (82, 80), (82, 79), (82, 78), (82, 77), (82, 74), (82, 73), (82, 72), (82, 71), (82, 70), (82, 69), (82, 68), (82, 64), (82, 62), (82, 61), (82, 60), (82, 59), (82, 58), (82, 57), (82, 56), (82, 55), (82, 53), (82, 52), (82, 51), (82, 50), (82, 49), (82, 48), (82, 47), (82, 46), (82, 45), (82, 44), (82, 34), (82, 33), (82, 32), (82, 31), (82, 30), (82, 29), (82, 28), (82, 27), (82, 26), (82, 25), (82, 24), (82, 23), (82, 22), (82, 21), (82, 20), (82, 19), (82, 18), (82, 17), (82, 16), (82, 15), (82, 14), (82, 13), (82, 12), (82, 11), (82, 0), (1, 9), (76, 5), (76, 4), (76, 2), (76, 1), (76, 0), (1, 8), (70, 2), (70, 1), (70, 0), (70, 11), (70, 8), (70, 7), (70, 5), (70, 3), (1, 7), (69, 1), (69, 0), (1, 6), (40, 3), (40, 2), (40, 1), (40, 0), (40, 16), (40, 15), (40, 8), (40, 6), (40, 5), (53, 12), (53, 11), (53, 10), (53, 8), (53, 7), (53, 6), (53, 5), (53, 4), (53, 2), (53, 1), (53, 0), (40, 4), (41, 12), (41, 11), (41, 10), (41, 8), (41, 7), (41, 6), (41, 5), (41, 4), (41, 2), (41, 1), (41, 0), (1, 5), (39, 1), (39, 0), (1, 4), (24, 13), (24, 12), (24, 11), (24, 10), (24, 9), (24, 8), (24, 7), (24, 6), (24, 5), (24, 4), (24, 3), (24, 2), (24, 1), (24, 0), (1, 3), (19, 3), (19, 2), (19, 1), (19, 0), (1, 2), (7, 10), (7, 9), (7, 8), (7, 7), (7, 6), (7, 5), (7, 4), (7, 3), (7, 2), (7, 1), (7, 0), (1, 1), (4, 1), (4, 0), (1, 0), (2, 0)]
def ao_SS (i : Nat) : List (Nat × Nat) := ao_L.drop (147 - i)
noncomputable def ao_Pc (b base : Nat) (D : va_G) (cA : Nat → ClassId) (as : List Value) (S : List (Nat × Nat)) (n : Nat) : Array Value → State → Prop := va_Pc as (fun U => ao_rel b base D cA S n U.heap ∧ va_K D am_cls (am_tys cA) U ∧ am_nest U)
noncomputable def ao_Qc (b base : Nat) (D : va_G) (cA : Nat → ClassId) (S : List (Nat × Nat)) (n : Nat) : Array Value → State → Outcome → State → Prop := fun _ st oc t => oc = .returned none ∧ ao_rel b base D cA S n t.heap ∧ va_F (fun q => base ≤ q) st t
theorem ao_blind {b base : Nat} {D : va_G} {cA : Nat → ClassId} {as : List Value} {S : List (Nat × Nat)} {n : Nat} : FrameBlind (ao_Pc b base D cA as S n) := by
  intro a U g mk q
  obtain ⟨q0, q1, q2, q3⟩ := q
  exact ⟨q0, q1, va_K.moved (u := U) (U := U.calling g mk a) (Vm.Alike.refl U.vm) q2, am_nest_vm (s := U) (U := U.calling g mk a) rfl q3⟩
/-- the store with which the law's loop begins: all zero, the script, and (behind p rounds of the last constructor's loop) no other way for any purse -/
noncomputable def ao_σp (p : Int) (Ln : Int) (xs : Nat → Int32) : AS := fun c i => if c = 0 then (if 0 ≤ i ∧ i < Ln then (xs i.toNat).toInt else 0) else if c = 121 then (if 0 ≤ i ∧ i < p then -1 else 0) else 0
noncomputable def ao_σ (Ln : Int) (xs : Nat → Int32) : AS := ao_σp 10 Ln xs
noncomputable def ao_Qm (b base : Nat) (D : va_G) (cA : Nat → ClassId) : Array Value → State → Outcome → State → Prop := fun _ st oc t => oc = .returned none ∧ (∀ Ln xs, va_P D am_cls (am_ws Ln b base cA (ao_σ Ln xs)) t.heap) ∧ va_F (fun q => base ≤ q) st t
section AOC
variable {p : Program} {l : Launch} {e : Env} {R : Room} {s : State} {mid : MethodId} {args : Array Value} {below : List Frame} {meth : Method} {c : Code} {H H0 : Heap} {locs : List Loc} {cells slots mc ms : Nat} {Qf : State → Prop}
variable {pc : Nat} {ls : Array Slot} {st0 rest : List Value} {b base : Nat} {D : va_G} {cA : Nat → ClassId} {S : List (Nat × Nat)} {n : Nat} {a : Array Value}
theorem ao_call (hr : va_Run p l e R s mid args below meth c H locs cells slots mc ms (F0 mid pc ls st0) rest (ao_Qc b base D cA S n a) (fun q => base ≤ q)) (hS : va_S (fun q => base ≤ q) H0 H locs)
    (kk : ∀ H1 locs1, ao_rel b base D cA S n H1 → va_S (fun q => base ≤ q) H0 H1 locs1 → W p l e R s mid args below meth c H1 locs1 (cells + mc) (slots + ms) Qf (F0 mid (pc + 3) ls rest)) : W p l e R s mid args below meth c H locs cells slots Qf (F0 mid pc ls st0) := by
  intro U hU X
  obtain ⟨v, st₀, t, T', L, h0, X', hL, e1, e2, ⟨hv, hrel, hz, hk⟩, st⟩ := hr U hU X
  cases hv
  rw [h0] at hz hk
  obtain ⟨t2, a1, b1⟩ := kk T'.heap (locs ++ L) (by rw [e1]; exact hrel)
    ⟨Nat.le_trans hS.1 (by rw [e1]; exact hz), fun q h1 h2 => by rw [e1, hk q (Nat.lt_of_lt_of_le h1 hS.1) h2]; exact hS.2.1 q h1 h2, fun q hq => by
      rcases List.mem_append.mp hq with h | h
      · exact hS.2.2 q h
      · exact hL q h⟩ T' rfl X'
  exact ⟨t2, st t2 a1, b1⟩
theorem ao_callM (hr : va_Run p l e R s mid args below meth c H locs cells slots mc ms (F0 mid pc ls st0) rest (ao_Qm b base D cA a) (fun q => base ≤ q)) (hS : va_S (fun q => base ≤ q) H0 H locs)
    (kk : ∀ H1 locs1, (∀ Ln xs, va_P D am_cls (am_ws Ln b base cA (ao_σ Ln xs)) H1) → va_S (fun q => base ≤ q) H0 H1 locs1 → W p l e R s mid args below meth c H1 locs1 (cells + mc) (slots + ms) Qf (F0 mid (pc + 3) ls rest)) : W p l e R s mid args below meth c H locs cells slots Qf (F0 mid pc ls st0) := by
  intro U hU X
  obtain ⟨v, st₀, t, T', L, h0, X', hL, e1, e2, ⟨hv, hrel, hz, hk⟩, st⟩ := hr U hU X
  cases hv
  rw [h0] at hz hk
  obtain ⟨t2, a1, b1⟩ := kk T'.heap (locs ++ L) (by rw [e1]; exact hrel)
    ⟨Nat.le_trans hS.1 (by rw [e1]; exact hz), fun q h1 h2 => by rw [e1, hk q (Nat.lt_of_lt_of_le h1 hS.1) h2]; exact hS.2.1 q h1 h2, fun q hq => by
      rcases List.mem_append.mp hq with h | h
      · exact hS.2.2 q h
      · exact hL q h⟩ T' rfl X'
  exact ⟨t2, st t2 a1, b1⟩
end AOC
/-- all references are set: the cells are those of the abstract machine's first store -/
theorem ao_full : (List.range 138).all (fun k => match am_kd 0 (k + 1) with
    | (0, _, ci) => (List.range (am_ftL.getD ci []).length).all (fun j => (match am_ft ci j with
      | 2 => decide ((k + 1, j) ∈ ao_SS 147)
      | _ => true))
    | _ => true) = true := by decide +kernel
theorem ao_cell_eq {b base : Nat} {cA : Nat → ClassId} {Ln : Int} {xs : Nat → Int32} {k : Nat} (hk : k < 138) : am_cell Ln (am_ad b base) cA (ao_σp 0 Ln xs) (k + 1) = ao_cell (am_ad b base) cA (ao_SS 147) (k + 1) := by
  have hz : ∀ i, ao_σp 0 Ln xs (k + 1) i = 0 := by
    intro i
    unfold ao_σp
    rw [if_neg (by omega)]
    split
    · rw [if_neg (by omega)]
    · rfl
  have hf := List.all_eq_true.mp ao_full k (List.mem_range.mpr hk)
  unfold am_cell ao_cell
  show ((match am_kd 0 (k + 1) with
    | (0, _, ci) => Sum.inr (ci, am_fv (am_ad b base) (ao_σp 0 Ln xs) (k + 1) 0 (am_ftL.getD ci []))
    | (2, n, _) => .inl (cA 2, n.toNat, .inr (.inl (fun j => Int64.ofInt (ao_σp 0 Ln xs (k + 1) j))))
    | (t, n, _) => .inl (cA t, n.toNat, .inl (fun j => Int32.ofInt (ao_σp 0 Ln xs (k + 1) j)))) : va_E) = _
  generalize am_kd 0 (k + 1) = q at hf ⊢
  obtain ⟨t, n, ci⟩ := q
  match t, hf with
  | 0, hf =>
    show Sum.inr (ci, _) = Sum.inr (ci, _)
    congr 2
    apply List.ext_getElem?
    intro j
    rw [am_fv_get, ao_f_get]
    cases hj : (am_ftL.getD ci [])[j]? with
    | none => rfl
    | some t =>
      simp only [Option.map_some, Nat.zero_add]
      have hjl := (List.getElem?_eq_some_iff.mp hj).1
      have h2 := List.all_eq_true.mp hf j (List.mem_range.mpr hjl)
      have h3 : am_ft ci j = t := by unfold am_ft; rw [List.getD_eq_getElem?_getD, hj]; rfl
      rw [h3] at h2
      unfold am_fe ao_e
      split
      · have h4 : (k + 1, j) ∈ ao_SS 147 := by simpa using h2
        rw [if_pos h4]
        rfl
      · rename_i hne
        rw [hz]
        split
        · exact (hne rfl).elim
        · rfl
  | 1, _ => simp only [hz]; rfl
  | 2, _ => simp only [hz]; rfl
  | t + 3, _ => simp only [hz]; rfl
theorem ao_ws_eq {b base : Nat} {cA : Nat → ClassId} {Ln : Int} {xs : Nat → Int32} : am_ws Ln b base cA (ao_σp 0 Ln xs) = ao_ws b base cA (ao_SS 147) 138 := by
  apply List.ext_getElem?
  intro k
  rcases Nat.lt_or_ge k 138 with hk | hk
  · rw [am_ws_get hk, ao_ws_get hk, ao_cell_eq hk]
  · rw [List.getElem?_eq_none (by unfold am_ws am_NC; simpa using hk), List.getElem?_eq_none (by unfold ao_ws; simpa using hk)]
theorem am_kd_S {Ln Ln' : Int} {k : Nat} : am_kd Ln (k + 1) = am_kd Ln' (k + 1) := rfl
theorem am_cell_S {ad : Nat → Nat} {cA : Nat → ClassId} {Ln Ln' : Int} {σ σ' : AS} {k : Nat} (h : σ (k + 1) = σ' (k + 1)) : am_cell Ln ad cA σ (k + 1) = am_cell Ln' ad cA σ' (k + 1) := by
  rw [am_cell_congr h]
  unfold am_cell
  rw [am_kd_S (Ln := Ln) (Ln' := Ln')]
theorem ao_ws_all {b base : Nat} {cA : Nat → ClassId} {Ln Ln' : Int} {xs xs' : Nat → Int32} {p : Int} : am_ws Ln b base cA (ao_σp p Ln xs) = am_ws Ln' b base cA (ao_σp p Ln' xs') := by
  have hz : ∀ k, ao_σp p Ln xs (k + 1) = ao_σp p Ln' xs' (k + 1) := by
    intro k
    funext i
    unfold ao_σp
    simp only [if_neg (show ¬ k + 1 = 0 by omega)]
  unfold am_ws
  generalize am_NC = n
  apply List.map_congr_left
  intro k _
  rw [am_cell_S (hz k)]
