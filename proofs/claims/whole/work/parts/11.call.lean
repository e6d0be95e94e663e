/-! calls -/
theorem am_pad_len : ∀ (n : Nat) (l : List AV), (am_pad n l).length = n
  | 0, _ => rfl
  | n + 1, [] => by rw [am_pad, List.length_cons, am_pad_len n []]
  | n + 1, v :: r => by rw [am_pad, List.length_cons, am_pad_len n r]
theorem am_pad_get {v : AV} (hv : v ≠ vU) : ∀ (n : Nat) (l : List AV) (j : Nat), (am_pad n l)[j]? = some v → l[j]? = some v
  | 0, l, j, h => by simp [am_pad] at h
  | n + 1, [], 0, h => by
    have : vU = v := by simpa [am_pad] using h
    exact absurd this.symm hv
  | n + 1, [], j + 1, h => am_pad_get hv n [] j (by simpa [am_pad] using h) |> fun q => by simp at q
  | n + 1, a :: r, 0, h => by simpa [am_pad] using h
  | n + 1, a :: r, j + 1, h => by
    have := am_pad_get hv n r j (by simpa [am_pad] using h)
    simpa using this
theorem am_exp_cons (v : AV) (r : List AV) : am_exp (v :: r) = (if am_isL v = true then v :: vU :: am_exp r else v :: am_exp r) := by
  rw [am_exp]
  split <;> simp_all
theorem am_exp_len {ad : Nat → Nat} : ∀ (as : List AV), (lg_sl (as.map (am_c ad))).length = (am_exp as).length
  | [] => rfl
  | v :: r => by
    have ih := am_exp_len (ad := ad) r
    rw [am_exp_cons]
    unfold lg_sl at ih ⊢
    rw [List.map_cons, List.flatMap_cons, List.length_append, ih]
    by_cases h : am_isL v = true
    · rw [if_pos h, if_pos (am_isL_c.mp h)]; simp; omega
    · rw [if_neg h, if_neg (fun q => h (am_isL_c.mpr q))]; simp; omega
theorem am_exp_get {ad : Nat → Nat} {v : AV} (hv : v ≠ vU) : ∀ (as : List AV) (i j : Nat), (am_exp as)[j]? = some v → (i + j, am_c ad v) ∈ lv_args i (as.map (am_c ad))
  | [], i, j, h => by simp [am_exp] at h
  | a :: r, i, j, h => by
    rw [am_exp_cons] at h
    rw [List.map_cons, lv_args]
    by_cases hl : am_isL a = true
    · rw [if_pos hl] at h
      rw [if_pos (am_isL_c.mp hl)]
      match j, h with
      | 0, h =>
        have e : a = v := by simpa using h
        rw [e]; exact List.mem_cons_self
      | 1, h =>
        have e : vU = v := by simpa using h
        exact absurd e.symm hv
      | j + 2, h =>
        have := am_exp_get (ad := ad) hv r (i + 2) j (by simpa using h)
        rw [show i + 2 + j = i + (j + 2) by omega] at this
        exact List.mem_cons_of_mem _ this
    · rw [if_neg hl] at h
      rw [if_neg (fun q => hl (am_isL_c.mpr q))]
      match j, h with
      | 0, h =>
        have e : a = v := by simpa using h
        rw [e]; exact List.mem_cons_self
      | j + 1, h =>
        have := am_exp_get (ad := ad) hv r (i + 1) j (by simpa using h)
        rw [show i + 1 + j = i + (j + 1) by omega] at this
        exact List.mem_cons_of_mem _ this
theorem am_entry_loc {ad : Nat → Nat} {ls : Array Slot} {m : Nat} {as : List AV} (h : lv_has ls (am_mt m).1 (lv_args 0 (as.map (am_c ad)))) : am_loc ad ls (am_mt m).1 (am_entry m as) := by
  refine am_loc_le (am_pad_len _ _) h fun j v hj hv => ?_
  have := am_exp_get (ad := ad) hv as 0 j (am_pad_get hv _ _ j hj)
  rwa [Nat.zero_add] at this
theorem am_exp_in {P : AV → Prop} (hU : P vU) : ∀ (as : List AV), (∀ v ∈ as, P v) → ∀ v ∈ am_exp as, P v
  | [], _, v, h => by simp [am_exp] at h
  | a :: r, hp, v, h => by
    rw [am_exp_cons] at h
    have ih := am_exp_in hU r (fun v hv => hp v (List.mem_cons_of_mem _ hv))
    split at h
    · rcases List.mem_cons.mp h with rfl | h
      · exact hp _ List.mem_cons_self
      · rcases List.mem_cons.mp h with rfl | h
        · exact hU
        · exact ih v h
    · rcases List.mem_cons.mp h with rfl | h
      · exact hp _ List.mem_cons_self
      · exact ih v h
theorem am_pad_in {P : AV → Prop} (hU : P vU) : ∀ (n : Nat) (as : List AV), (∀ v ∈ as, P v) → ∀ v ∈ am_pad n as, P v
  | 0, _, _, v, h => by simp [am_pad] at h
  | n + 1, [], hp, v, h => by
    rcases List.mem_cons.mp h with rfl | h
    · exact hU
    · exact am_pad_in hU n [] hp v h
  | n + 1, a :: r, hp, v, h => by
    rcases List.mem_cons.mp h with rfl | h
    · exact hp _ List.mem_cons_self
    · exact am_pad_in hU n r (fun v hv => hp v (List.mem_cons_of_mem _ hv)) v h
noncomputable def am_shape (m : Nat) (v : Option AV) : Prop := match v with
  | none => (am_mt m).2.2 = 0
  | some (.inl x) => ((am_mt m).2.2 = 1 ∨ (am_mt m).2.2 = 2 ∧ am_b x) ∧ in32 x
  | some (.inr (.inl x)) => (am_mt m).2.2 = 3 ∧ in64 x
  | _ => False
noncomputable def am_Qc (Ln : Int) (b base : Nat) (D : va_G) (cA : Nat → ClassId) (xs : Nat → Int32) (m : Nat) (T : Option AV → AS → Prop) : Array Value → State → Outcome → State → Prop := fun _ st oc t =>
  (∃ v σ', oc = .returned (v.map (am_c (am_ad b base))) ∧ T v σ' ∧ am_rel Ln b base D cA xs σ' t.heap ∧ am_shape m v) ∧ va_F (fun q => base ≤ q) st t
abbrev am_rm (d : Nat) : Room := { frames := d + 1, cells := 0, slots := 0, locals := 40 * (d + 1) }
noncomputable abbrev am_wd (m : Nat) : List Cond := .code (am_my m).1 (am_my m).2 (am_mt m).1 (am_rty (am_mt m).2.2) :: am_gt
noncomputable def am_Pc (Ln : Int) (b base : Nat) (D : va_G) (cA : Nat → ClassId) (xs : Nat → Int32) (as : List AV) (H : Heap) : Array Value → State → Prop := va_Pc (as.map (am_c (am_ad b base))) (fun U => U.heap = H ∧ va_K D am_cls (am_tys cA) U ∧ am_nest U ∧ va_X b Ln.toNat xs U H)
set_option maxHeartbeats 4000000 in
theorem am_met {l : Launch} {Ln : Int} {b base : Nat} {D : va_G} {cA : Nat → ClassId} {xs : Nat → Int32} {d m : Nat} {as : List AV} {σ : AS} {T : Option AV → AS → Prop} {H : Heap} (h1 : 0 < m) (h2 : m < 246) (hP : am_P l Ln b base D cA xs d m 0 (am_entry m as) [] σ T)
    (hin : ∀ v ∈ as, am_in v) (hlen : (am_exp as).length ≤ (am_mt m).1) (hrel : am_rel Ln b base D cA xs σ H) (hb : b < base) (hbase : base ≤ H.size) (h0 : 0 ≤ Ln) (h4 : Ln ≤ 4096) :
    Met l (am_my m).1 (am_wd m) (am_rm d) (am_Pc Ln b base D cA xs as H) (am_Qc Ln b base D cA xs m T) 0 0 (fun q => base ≤ q) := by
  have hok := am_ok_m h1 h2
  have hpl : plainName (am_my m).1.cls = true := by
    simp only [am_okm, Bool.and_eq_true] at hok
    exact hok.1.2
  refine Met.ofW (cc := (am_my m).2) (maxL := (am_mt m).1) (ret := am_rty (am_mt m).2.2) (ws' := am_gt) hpl rfl ?_
  intro p e s mid args below meth c s₁ B hml hv
  obtain ⟨rfl, hH, hK, hN, hX⟩ := hv
  subst hH
  have hx := B.exec
  have hbb := B.bytes
  have hr := B.returns
  have hts := atoms_spec (ws := am_wd m) B.pre
  have hown : s.vm.findClass (am_my m).1.cls = some mid.cls := findClass_of_methodNamed B.named
  have hlocks := B.notSynchronized
  have hl := lv_entry (as.map (am_c (am_ad b base))) (n := (am_mt m).1) (by rw [am_exp_len]; exact hlen)
  rw [lg_entry_eq]
  generalize (lg_sl (as.map (am_c (am_ad b base))) ++ List.replicate ((am_mt m).1 - (lg_sl (as.map (am_c (am_ad b base)))).length) Slot.unset).toArray = ls at hl ⊢
  refine hP p e (am_rm d) s mid _ below meth c s.heap s.heap [] 0 0 _ ls ⟨hx, hbb, hml, hown, fun w hw => hts w (List.mem_cons_of_mem _ hw), hN, hK, hX, hb, hbase, Nat.le_refl _, Nat.le_refl _, h0, h4⟩ hrel va_S.rf (Nat.le_refl _) (Nat.le_refl _) (am_entry_loc hl) (am_pad_in trivial _ _ (am_exp_in trivial _ hin)) (fun v hv => by cases hv) ?_
  intro v σ' H' locs' pc' ls' hT hrel' hS' hd
  have fin : ∀ t : State, t.heap = H' → am_shape m v → am_Qc Ln b base D cA xs m T (as.map (am_c (am_ad b base))).toArray s (.returned (v.map (am_c (am_ad b base)))) t := fun t ht hsh => ⟨⟨v, σ', rfl, hT, by rw [ht]; exact hrel', hsh⟩, hS'.F ht⟩
  match v, hd with
  | none, hd =>
    exact W.vret hx hbb (by rw [hr, hd.2]; rfl) (fun t ht hW => fin t ht hd.2) hS'.2.2 hd.1
  | some (.inl x), hd =>
    rcases hd.2.1 with q | q
    · exact W.iret (v := Int32.ofInt x) hx hbb (by rw [hr, q]; rfl) (fun t ht hW => fin t ht hd.2) hS'.2.2 hd.1
    · refine W.zret (v := Int32.ofInt x) (ty := .boolean) hx hbb (by rw [hr, q.1]; rfl) ?_ (fun t ht hW => fin t ht hd.2) hS'.2.2 hd.1
      rcases q.2 with e | e <;> rw [e] <;> rfl
  | some (.inr (.inl x)), hd =>
    exact W.lret (v := Int64.ofInt x) hx hbb (by rw [hr, hd.2.1]; rfl) (fun t ht hW => fin t ht hd.2) hS'.2.2 hd.1
theorem am_Pc_blind {Ln : Int} {b base : Nat} {D : va_G} {cA : Nat → ClassId} {xs : Nat → Int32} {as : List AV} {H : Heap} : FrameBlind (am_Pc Ln b base D cA xs as H) := by
  intro a U g mk q
  obtain ⟨q0, q1, q2, q3, q4⟩ := q
  exact ⟨q0, q1, va_K.moved (u := U) (U := U.calling g mk a) (Vm.Alike.refl U.vm) q2, am_nest_vm (s := U) (U := U.calling g mk a) rfl q3, va_X.moved (u := U) (U := U.calling g mk a) (Vm.Alike.refl U.vm) q4⟩
section CW
variable {p : Program} {l : Launch} {e : Env} {R : Room} {s : State} {mid : MethodId} {args : Array Value} {below : List Frame} {meth : Method} {c : Code} {H H0 : Heap} {locs : List Loc} {cells slots : Nat} {Qf : State → Prop}
theorem am_callW {Ln : Int} {b base : Nat} {D : va_G} {cA : Nat → ClassId} {xs : Nat → Int32} {m pc : Nat} {T : Option AV → AS → Prop} {a : Array Value} {ls : Array Slot} {st0 rest : List Value}
    (hr : va_Run p l e R s mid args below meth c H locs cells slots 0 0 (F0 mid pc ls st0) rest (am_Qc Ln b base D cA xs m T a) (fun q => base ≤ q)) (hS : va_S (fun q => base ≤ q) H0 H locs)
    (kk : ∀ v σ' H1 locs1, T v σ' → am_rel Ln b base D cA xs σ' H1 → am_shape m v → va_S (fun q => base ≤ q) H0 H1 locs1 → W p l e R s mid args below meth c H1 locs1 cells slots Qf (F0 mid (pc + 3) ls (am_top (am_ad b base) v ++ rest))) :
    W p l e R s mid args below meth c H locs cells slots Qf (F0 mid pc ls st0) := by
  intro U hU X
  obtain ⟨v, st₀, t, T', L, h0, X', hL, e1, e2, ⟨⟨w, σ', hv, hp, hrel, hsh⟩, hz, hk⟩, st⟩ := hr U hU X
  cases hv
  rw [h0] at hz hk
  obtain ⟨t2, a1, b1⟩ := kk w σ' T'.heap (locs ++ L) hp (by rw [e1]; exact hrel) hsh
    ⟨Nat.le_trans hS.1 (by rw [e1]; exact hz), fun q h1 h2 => by rw [e1, hk q (Nat.lt_of_lt_of_le h1 hS.1) h2]; exact hS.2.1 q h1 h2, fun q hq => by
      rcases List.mem_append.mp hq with h | h
      · exact hS.2.2 q h
      · exact hL q h⟩ T' rfl X'
  refine ⟨t2, st t2 ?_, b1⟩
  have e3 : ((w.map (am_c (am_ad b base))).toList ++ rest) = am_top (am_ad b base) w ++ rest := by cases w <;> rfl
  rw [e3]
  exact a1
end CW
