/-! the step, instruction by instruction -/
noncomputable def am_acp (Ln : Int) (ls st : List AV) (σ : AS) (pc : Nat) : AA := match st with
  | .inl n :: .inl dp :: .inr (.inr (.inl a1)) :: .inl sp :: .inr (.inr (.inl a0)) :: st => (match am_kd Ln a0, am_kd Ln a1, Nat.ble st.length 4 with
    | (1, n0, _), (1, n1, _), true => aC (0 ≤ sp ∧ 0 ≤ dp ∧ 0 ≤ n ∧ sp + n ≤ n0 ∧ dp + n ≤ n1) pc ls st (am_cpy σ a0 a1 sp dp n)
    | _, _, _ => aX)
  | _ => aX
set_option maxHeartbeats 40000000 in
set_option maxRecDepth 100000 in
theorem am_P_step {l : Launch} {Ln : Int} {b base : Nat} {D : va_G} {cA : Nat → ClassId} {xs : Nat → Int32} : am_stp Ln (am_P l Ln b base D cA xs) := by
  intro d m pc al st σ Q op ho h p e R s mid args below meth c H H0 locs cells slots Qf ls hC hR hS hcc hss hl hal hst hret
  have ck := am_ok_op ho
  obtain ⟨hx, hb, hml, hown, hts, hN, hK, hX, hbb, hbase, hfr, hlo, h0, h4⟩ := id hC
  have go : ∀ {pc' : Nat} {al' st' : List AV} {σ' : AS} {H' : Heap} {locs' : List Loc} {ls' : Array Slot}, am_P l Ln b base D cA xs d m pc' al' st' σ' Q → am_rel Ln b base D cA xs σ' H' → va_S (fun q => base ≤ q) H0 H' locs' → am_loc (am_ad b base) ls' (am_mt m).1 al' → (∀ v ∈ al', am_in v) → (∀ v ∈ st', am_in v) →
      W p l e R s mid args below meth c H' locs' cells slots Qf (F0 mid pc' ls' (st'.map (am_c (am_ad b base)))) := fun hk hR' hS' hl' hal' hst' => hk p e R s mid args below meth c _ H0 _ cells slots Qf _ hC hR' hS' hcc hss hl' hal' hst' hret
  have hbA : ¬ (fun q => base ≤ q) b := Nat.not_le.mpr hbb
  have hbl : b < H0.size := Nat.lt_of_lt_of_le hbb hbase
  obtain ⟨ins, len, x, y, cc, w⟩ := op
  cases ins with
  | iconst n =>
    simp only [am_okop, Bool.and_eq_true, decide_eq_true_eq] at ck
    obtain ⟨hdg, hlen, hi⟩ := ck
    have hlen := am_len hlen
    subst hlen
    exact lv_iconst hx hb hdg rfl (go (st' := vI n :: st) h hR hS hl hal (am_cons (am_i32_in hi) hst))
  | bipush n =>
    simp only [am_okop, Bool.and_eq_true, decide_eq_true_eq] at ck
    obtain ⟨hdg, ⟨hlen, hi⟩, hv⟩ := ck
    have hlen := am_len hlen
    subst hlen
    exact lv_bipush hx hb hdg hv (go (st' := vI n :: st) h hR hS hl hal (am_cons (am_i32_in hi) hst))
  | sipush n =>
    simp only [am_okop, Bool.and_eq_true, decide_eq_true_eq] at ck
    obtain ⟨hdg, ⟨hlen, hi⟩, hv⟩ := ck
    have hlen := am_len hlen
    subst hlen
    exact lv_sipush hx hb hdg hv (go (st' := vI n :: st) h hR hS hl hal (am_cons (am_i32_in hi) hst))
  | ldc i =>
    simp only [am_okop, Bool.and_eq_true, decide_eq_true_eq] at ck
    obtain ⟨hdg, ⟨hlen, hi⟩, hv⟩ := ck
    have hlen := am_len hlen
    subst hlen
    exact lv_ldc hx hb hown (hts _ (am_gt_in hv rfl)) hdg (go (st' := vI cc :: st) h hR hS hl hal (am_cons (am_i32_in hi) hst))
  | ldc_w i =>
    simp only [am_okop, Bool.and_eq_true, decide_eq_true_eq] at ck
    obtain ⟨hdg, ⟨hlen, hi⟩, hv⟩ := ck
    have hlen := am_len hlen
    subst hlen
    exact lv_ldcw hx hb hown (hts _ (am_gt_in hv rfl)) hdg (go (st' := vI cc :: st) h hR hS hl hal (am_cons (am_i32_in hi) hst))
  | ldc2_w i =>
    simp only [am_okop, Bool.and_eq_true, decide_eq_true_eq] at ck
    obtain ⟨hdg, ⟨hlen, hi⟩, hv⟩ := ck
    have hlen := am_len hlen
    subst hlen
    exact lv_ldc2 hx hb hown (hts _ (am_gt_in hv rfl)) hdg (go (st' := vL cc :: st) h hR hS hl hal (am_cons (am_i64_in hi) hst))
  | lconst n =>
    simp only [am_okop, Bool.and_eq_true, decide_eq_true_eq] at ck
    obtain ⟨hdg, hlen⟩ := ck
    have hlen := am_len hlen
    subst hlen
    have hn := n.isLt
    exact lv_lconst hx hb hdg (v := Int64.ofInt ((n : Nat) : Int)) rfl (go (st' := vL ((n : Nat) : Int) :: st) h hR hS hl hal (am_cons ⟨by omega, by omega⟩ hst))
  | iload i =>
    simp only [am_okop, Bool.and_eq_true, decide_eq_true_eq] at ck
    obtain ⟨hdg, hlen⟩ := ck
    have hlen := am_len hlen
    subst hlen
    obtain ⟨v, hv, hg, hk, x, rfl⟩ := am_ld_inv h
    exact lv_iload hx hb hdg (am_loc_at hl hv hg) (go (st' := vI x :: st) hk hR hS hl hal (am_cons (hg ▸ am_in_get hal) hst))
  | iload_n i =>
    simp only [am_okop, Bool.and_eq_true, decide_eq_true_eq] at ck
    obtain ⟨hdg, hlen⟩ := ck
    have hlen := am_len hlen
    subst hlen
    obtain ⟨v, hv, hg, hk, x, rfl⟩ := am_ld_inv h
    exact lv_iload_n hx hb hdg rfl (am_loc_at hl hv hg) (go (st' := vI x :: st) hk hR hS hl hal (am_cons (hg ▸ am_in_get hal) hst))
  | lload i =>
    simp only [am_okop, Bool.and_eq_true, decide_eq_true_eq] at ck
    obtain ⟨hdg, hlen⟩ := ck
    have hlen := am_len hlen
    subst hlen
    obtain ⟨v, hv, hg, hk, x, rfl⟩ := am_ld_inv h
    exact lv_lload hx hb hdg (am_loc_at hl hv hg) (go (st' := vL x :: st) hk hR hS hl hal (am_cons (hg ▸ am_in_get hal) hst))
  | lload_n i =>
    simp only [am_okop, Bool.and_eq_true, decide_eq_true_eq] at ck
    obtain ⟨hdg, hlen⟩ := ck
    have hlen := am_len hlen
    subst hlen
    obtain ⟨v, hv, hg, hk, x, rfl⟩ := am_ld_inv h
    exact lv_lload_n hx hb hdg rfl (am_loc_at hl hv hg) (go (st' := vL x :: st) hk hR hS hl hal (am_cons (hg ▸ am_in_get hal) hst))
  | aload i =>
    simp only [am_okop, Bool.and_eq_true, decide_eq_true_eq] at ck
    obtain ⟨hdg, hlen⟩ := ck
    have hlen := am_len hlen
    subst hlen
    obtain ⟨v, hv, hg, hk, x, rfl⟩ := am_ld_inv h
    exact lv_aload hx hb hdg (am_loc_at hl hv hg) (go (st' := vR x :: st) hk hR hS hl hal (am_cons trivial hst))
  | aload_n i =>
    simp only [am_okop, Bool.and_eq_true, decide_eq_true_eq] at ck
    obtain ⟨hdg, hlen⟩ := ck
    have hlen := am_len hlen
    subst hlen
    obtain ⟨v, hv, hg, hk, x, rfl⟩ := am_ld_inv h
    exact lv_aload_n hx hb hdg rfl (am_loc_at hl hv hg) (go (st' := vR x :: st) hk hR hS hl hal (am_cons trivial hst))
  | istore i =>
    simp only [am_okop, Bool.and_eq_true, decide_eq_true_eq] at ck
    obtain ⟨hdg, hlen⟩ := ck
    have hlen := am_len hlen
    subst hlen
    obtain ⟨x, r, rfl, hi, hk⟩ := am_sto_inv0 h
    exact lv_istore hx hb hdg hl.2 (by rw [← hl.1]; exact hi) rfl fun ls' hl' => go hk hR hS (am_loc_set hl.1 hl') (am_in_set hal (am_hd hst)) (am_tl hst)
  | istore_n i =>
    simp only [am_okop, Bool.and_eq_true, decide_eq_true_eq] at ck
    obtain ⟨hdg, hlen⟩ := ck
    have hlen := am_len hlen
    subst hlen
    obtain ⟨x, r, rfl, hi, hk⟩ := am_sto_inv0 h
    exact lv_istore_n hx hb hdg rfl hl.2 (by rw [← hl.1]; exact hi) rfl fun ls' hl' => go hk hR hS (am_loc_set hl.1 hl') (am_in_set hal (am_hd hst)) (am_tl hst)
  | lstore i =>
    simp only [am_okop, Bool.and_eq_true, decide_eq_true_eq] at ck
    obtain ⟨hdg, hlen⟩ := ck
    have hlen := am_len hlen
    subst hlen
    obtain ⟨x, r, rfl, hi, hk⟩ := am_sto_inv1 h
    exact lv_lstore hx hb hdg hl.2 (by rw [← hl.1]; exact hi) rfl fun ls' hl' => go hk hR hS (am_loc_setL hl.1 hl') (am_in_setU (am_in_set hal (am_hd hst))) (am_tl hst)
  | lstore_n i =>
    simp only [am_okop, Bool.and_eq_true, decide_eq_true_eq] at ck
    obtain ⟨hdg, hlen⟩ := ck
    have hlen := am_len hlen
    subst hlen
    obtain ⟨x, r, rfl, hi, hk⟩ := am_sto_inv1 h
    exact lv_lstore_n hx hb hdg rfl hl.2 (by rw [← hl.1]; exact hi) rfl fun ls' hl' => go hk hR hS (am_loc_setL hl.1 hl') (am_in_setU (am_in_set hal (am_hd hst))) (am_tl hst)
  | astore i =>
    simp only [am_okop, Bool.and_eq_true, decide_eq_true_eq] at ck
    obtain ⟨hdg, hlen⟩ := ck
    have hlen := am_len hlen
    subst hlen
    obtain ⟨x, r, rfl, hi, hk⟩ := am_sto_inv2 h
    exact lv_astore hx hb hdg hl.2 (by rw [← hl.1]; exact hi) rfl fun ls' hl' => go hk hR hS (am_loc_set hl.1 hl') (am_in_set hal trivial) (am_tl hst)
  | astore_n i =>
    simp only [am_okop, Bool.and_eq_true, decide_eq_true_eq] at ck
    obtain ⟨hdg, hlen⟩ := ck
    have hlen := am_len hlen
    subst hlen
    obtain ⟨x, r, rfl, hi, hk⟩ := am_sto_inv2 h
    exact lv_astore_n hx hb hdg rfl hl.2 (by rw [← hl.1]; exact hi) rfl fun ls' hl' => go hk hR hS (am_loc_set hl.1 hl') (am_in_set hal trivial) (am_tl hst)
  | iinc i n =>
    simp only [am_okop, Bool.and_eq_true, decide_eq_true_eq] at ck
    obtain ⟨hdg, hlen⟩ := ck
    have hlen := am_len hlen
    subst hlen
    simp only [am_act] at h
    split at h
    · rename_i v e1 e2
      have hi : i < al.length := Nat.blt_eq.mp e1
      have hv1 : (i, Value.int (Int32.ofInt v)) ∈ am_lv (am_ad b base) 0 al := by
        have h1 : al[i]? = some (vI v) := by
          rw [List.getD_eq_getElem?_getD] at e2
          rw [List.getElem?_eq_getElem hi] at e2 ⊢
          exact congrArg some e2
        have := am_lv_of (ad := am_ad b base) (v := vI v) (fun q => by cases q) (i := 0) h1
        rwa [Nat.zero_add] at this
      obtain ⟨k, hk⟩ := List.getElem?_of_mem hv1
      exact lv_iinc (v := Int32.ofInt (w32 (v + n))) hx hb hdg hl.2 hk (by rw [of_w32, Int32.ofInt_add]) (by rw [← hl.1]; exact hi) rfl fun ls' hl' => go h hR hS (am_loc_set (v := vI (w32 (v + n))) hl.1 hl') (am_in_set hal (in32_w32 _)) hst
    · exact h.1.elim
  | iadd =>
    simp only [am_okop, Bool.and_eq_true, decide_eq_true_eq] at ck
    obtain ⟨hdg, hlen⟩ := ck
    have hlen := am_len hlen
    subst hlen
    obtain ⟨u, v, r, rfl, hk⟩ := am_i2_inv h
    refine lv_iadd hx hb hdg ?_
    rw [add_w32]
    exact go (st' := vI _ :: r) hk hR hS hl hal (am_cons (in32_w32 _) (am_tl (am_tl hst)))
  | isub =>
    simp only [am_okop, Bool.and_eq_true, decide_eq_true_eq] at ck
    obtain ⟨hdg, hlen⟩ := ck
    have hlen := am_len hlen
    subst hlen
    obtain ⟨u, v, r, rfl, hk⟩ := am_i2_inv h
    refine lv_isub hx hb hdg ?_
    rw [sub_w32]
    exact go (st' := vI _ :: r) hk hR hS hl hal (am_cons (in32_w32 _) (am_tl (am_tl hst)))
  | imul =>
    simp only [am_okop, Bool.and_eq_true, decide_eq_true_eq] at ck
    obtain ⟨hdg, hlen⟩ := ck
    have hlen := am_len hlen
    subst hlen
    obtain ⟨u, v, r, rfl, hk⟩ := am_i2_inv h
    refine lv_imul hx hb hdg ?_
    rw [mul_w32]
    exact go (st' := vI _ :: r) hk hR hS hl hal (am_cons (in32_w32 _) (am_tl (am_tl hst)))
  | idiv =>
    simp only [am_okop, Bool.and_eq_true, decide_eq_true_eq] at ck
    obtain ⟨hdg, hlen⟩ := ck
    have hlen := am_len hlen
    subst hlen
    obtain ⟨u, v, r, rfl, hne, hk⟩ := am_i2_inv h
    have hv := am_hd hst
    have hu := am_hd (am_tl hst)
    refine lv_idiv hx hb hdg (fun q => hne ((eq_i32 hv in32_0).mp q)) ?_
    rw [div_w32 hu hv]
    exact go (st' := vI _ :: r) hk hR hS hl hal (am_cons (in32_w32 _) (am_tl (am_tl hst)))
  | irem =>
    simp only [am_okop, Bool.and_eq_true, decide_eq_true_eq] at ck
    obtain ⟨hdg, hlen⟩ := ck
    have hlen := am_len hlen
    subst hlen
    obtain ⟨u, v, r, rfl, hne, hk⟩ := am_i2_inv h
    have hv := am_hd hst
    have hu := am_hd (am_tl hst)
    refine lv_irem hx hb hdg (fun q => hne ((eq_i32 hv in32_0).mp q)) ?_
    rw [rem_i32 hu hv]
    exact go (st' := vI _ :: r) hk hR hS hl hal (am_cons (in32_tmod hu hv) (am_tl (am_tl hst)))
  | iand =>
    simp only [am_okop, Bool.and_eq_true, decide_eq_true_eq] at ck
    obtain ⟨hdg, hlen⟩ := ck
    have hlen := am_len hlen
    subst hlen
    obtain ⟨u, v, r, rfl, hk⟩ := am_i2_inv h
    refine lv_iand hx hb hdg ?_
    rw [← am_ofInt_toInt (Int32.ofInt u &&& Int32.ofInt v)]
    exact go (st' := vI (bAnd u v) :: r) hk hR hS hl hal (am_cons (in32_of _) (am_tl (am_tl hst)))
  | ior =>
    simp only [am_okop, Bool.and_eq_true, decide_eq_true_eq] at ck
    obtain ⟨hdg, hlen⟩ := ck
    have hlen := am_len hlen
    subst hlen
    obtain ⟨u, v, r, rfl, hk⟩ := am_i2_inv h
    refine lv_ior hx hb hdg ?_
    rw [← am_ofInt_toInt (Int32.ofInt u ||| Int32.ofInt v)]
    exact go (st' := vI (bOr u v) :: r) hk hR hS hl hal (am_cons (in32_of _) (am_tl (am_tl hst)))
  | ishl =>
    simp only [am_okop, Bool.and_eq_true, decide_eq_true_eq] at ck
    obtain ⟨hdg, hlen⟩ := ck
    have hlen := am_len hlen
    subst hlen
    obtain ⟨u, v, r, rfl, hk⟩ := am_i2_inv h
    refine lv_ishl hx hb hdg ?_
    rw [← am_ofInt_toInt (Int32.ofInt u <<< (Int32.ofInt v &&& 31))]
    exact go (st' := vI (bShl u v) :: r) hk hR hS hl hal (am_cons (in32_of _) (am_tl (am_tl hst)))
  | ishr =>
    simp only [am_okop, Bool.and_eq_true, decide_eq_true_eq] at ck
    obtain ⟨hdg, hlen⟩ := ck
    have hlen := am_len hlen
    subst hlen
    obtain ⟨u, v, r, rfl, hk⟩ := am_i2_inv h
    refine lv_ishr hx hb hdg ?_
    rw [← am_ofInt_toInt (Int32.ofInt u >>> (Int32.ofInt v &&& 31))]
    exact go (st' := vI (bShr u v) :: r) hk hR hS hl hal (am_cons (in32_of _) (am_tl (am_tl hst)))
  | ladd =>
    simp only [am_okop, Bool.and_eq_true, decide_eq_true_eq] at ck
    obtain ⟨hdg, hlen⟩ := ck
    have hlen := am_len hlen
    subst hlen
    obtain ⟨u, v, r, rfl, hk⟩ := am_l2_inv h
    refine lv_ladd hx hb hdg ?_
    rw [add_w64]
    exact go (st' := vL _ :: r) hk hR hS hl hal (am_cons (in64_w64 _) (am_tl (am_tl hst)))
  | lsub =>
    simp only [am_okop, Bool.and_eq_true, decide_eq_true_eq] at ck
    obtain ⟨hdg, hlen⟩ := ck
    have hlen := am_len hlen
    subst hlen
    obtain ⟨u, v, r, rfl, hk⟩ := am_l2_inv h
    refine lv_lsub hx hb hdg ?_
    rw [sub_w64]
    exact go (st' := vL _ :: r) hk hR hS hl hal (am_cons (in64_w64 _) (am_tl (am_tl hst)))
  | lmul =>
    simp only [am_okop, Bool.and_eq_true, decide_eq_true_eq] at ck
    obtain ⟨hdg, hlen⟩ := ck
    have hlen := am_len hlen
    subst hlen
    obtain ⟨u, v, r, rfl, hk⟩ := am_l2_inv h
    refine lv_lmul hx hb hdg ?_
    rw [mul_w64]
    exact go (st' := vL _ :: r) hk hR hS hl hal (am_cons (in64_w64 _) (am_tl (am_tl hst)))
  | ldiv =>
    simp only [am_okop, Bool.and_eq_true, decide_eq_true_eq] at ck
    obtain ⟨hdg, hlen⟩ := ck
    have hlen := am_len hlen
    subst hlen
    obtain ⟨u, v, r, rfl, hne, hk⟩ := am_l2_inv h
    have hv := am_hd hst
    have hu := am_hd (am_tl hst)
    refine lv_ldiv hx hb hdg (fun q => hne ((eq_i64 hv in64_0).mp q)) ?_
    rw [div_w64 hu hv]
    exact go (st' := vL _ :: r) hk hR hS hl hal (am_cons (in64_w64 _) (am_tl (am_tl hst)))
  | lrem =>
    simp only [am_okop, Bool.and_eq_true, decide_eq_true_eq] at ck
    obtain ⟨hdg, hlen⟩ := ck
    have hlen := am_len hlen
    subst hlen
    obtain ⟨u, v, r, rfl, hne, hk⟩ := am_l2_inv h
    have hv := am_hd hst
    have hu := am_hd (am_tl hst)
    refine lv_lrem hx hb hdg (fun q => hne ((eq_i64 hv in64_0).mp q)) ?_
    rw [rem_i64 hu hv]
    exact go (st' := vL _ :: r) hk hR hS hl hal (am_cons (in64_tmod hu hv) (am_tl (am_tl hst)))
  | land =>
    simp only [am_okop, Bool.and_eq_true, decide_eq_true_eq] at ck
    obtain ⟨hdg, hlen⟩ := ck
    have hlen := am_len hlen
    subst hlen
    obtain ⟨u, v, r, rfl, hk⟩ := am_l2_inv h
    refine lv_land hx hb hdg ?_
    rw [← of_toInt64 (Int64.ofInt u &&& Int64.ofInt v)]
    exact go (st' := vL (lAnd u v) :: r) hk hR hS hl hal (am_cons (in64_of _) (am_tl (am_tl hst)))
  | lor =>
    simp only [am_okop, Bool.and_eq_true, decide_eq_true_eq] at ck
    obtain ⟨hdg, hlen⟩ := ck
    have hlen := am_len hlen
    subst hlen
    obtain ⟨u, v, r, rfl, hk⟩ := am_l2_inv h
    refine lv_lor hx hb hdg ?_
    rw [← of_toInt64 (Int64.ofInt u ||| Int64.ofInt v)]
    exact go (st' := vL (lOr u v) :: r) hk hR hS hl hal (am_cons (in64_of _) (am_tl (am_tl hst)))
  | lshl =>
    simp only [am_okop, Bool.and_eq_true, decide_eq_true_eq] at ck
    obtain ⟨hdg, hlen⟩ := ck
    have hlen := am_len hlen
    subst hlen
    simp only [am_act] at h
    split at h
    · rename_i v u r
      refine lv_lshl (v := Int64.ofInt (lShl u v)) hx hb hdg (by rw [lShl, of_toInt64]) ?_
      exact go (st' := vL (lShl u v) :: r) h hR hS hl hal (am_cons (in64_of _) (am_tl (am_tl hst)))
    · exact h.1.elim
  | lshr =>
    simp only [am_okop, Bool.and_eq_true, decide_eq_true_eq] at ck
    obtain ⟨hdg, hlen⟩ := ck
    have hlen := am_len hlen
    subst hlen
    simp only [am_act] at h
    split at h
    · rename_i v u r
      refine lv_lshr (v := Int64.ofInt (lShr u v)) hx hb hdg (by rw [lShr, of_toInt64]) ?_
      exact go (st' := vL (lShr u v) :: r) h hR hS hl hal (am_cons (in64_of _) (am_tl (am_tl hst)))
    · exact h.1.elim
  | lcmp =>
    simp only [am_okop, Bool.and_eq_true, decide_eq_true_eq] at ck
    obtain ⟨hdg, hlen⟩ := ck
    have hlen := am_len hlen
    subst hlen
    obtain ⟨u, v, r, rfl, hk⟩ := am_l2_inv h
    refine W.lcmp hx hb hdg ?_
    rw [cmp_i (am_hd (am_tl hst)) (am_hd hst)]
    exact go (st' := vI (lCmp u v) :: r) hk hR hS hl hal (am_cons (in32_cmp _ _) (am_tl (am_tl hst)))
  | i2l =>
    simp only [am_okop, Bool.and_eq_true, decide_eq_true_eq] at ck
    obtain ⟨hdg, hlen⟩ := ck
    have hlen := am_len hlen
    subst hlen
    obtain ⟨u, r, rfl, hk⟩ := am_i1_inv h
    exact lv_i2l hx hb hdg (i2l_i (am_hd hst)) (go (st' := vL u :: r) hk hR hS hl hal (am_cons (in32_64 (am_hd hst)) (am_tl hst)))
  | l2i =>
    simp only [am_okop, Bool.and_eq_true, decide_eq_true_eq] at ck
    obtain ⟨hdg, hlen⟩ := ck
    have hlen := am_len hlen
    subst hlen
    simp only [am_act] at h
    split at h
    · rename_i u r
      exact lv_l2i hx hb hdg (l2i_i u) (go (st' := vI (w32 u) :: r) h hR hS hl hal (am_cons (in32_w32 _) (am_tl hst)))
    · exact h.1.elim
  | i2b =>
    simp only [am_okop, Bool.and_eq_true, decide_eq_true_eq] at ck
    obtain ⟨hdg, hlen⟩ := ck
    have hlen := am_len hlen
    subst hlen
    obtain ⟨u, r, rfl, hk⟩ := am_i1_inv h
    exact lv_i2b (v := Int32.ofInt (w8 u)) hx hb hdg (by rw [w8, am_ofInt_toInt]) (go (st' := vI (w8 u) :: r) hk hR hS hl hal (am_cons (in32_of _) (am_tl hst)))
  | dup =>
    simp only [am_okop, Bool.and_eq_true, decide_eq_true_eq] at ck
    obtain ⟨hdg, hlen⟩ := ck
    have hlen := am_len hlen
    subst hlen
    simp only [am_act] at h
    split at h
    · rename_i u r
      exact lv_dup hx hb hdg rfl (go (st' := vI u :: vI u :: r) h hR hS hl hal (am_cons (am_hd hst) hst))
    · rename_i u r
      exact lv_dup hx hb hdg rfl (go (st' := vR u :: vR u :: r) h hR hS hl hal (am_cons (am_hd hst) hst))
    · exact h.1.elim
  | dup2 =>
    simp only [am_okop, Bool.and_eq_true, decide_eq_true_eq] at ck
    obtain ⟨hdg, hlen⟩ := ck
    have hlen := am_len hlen
    subst hlen
    simp only [am_act] at h
    split at h
    · rename_i v u r
      exact lv_dup2_11 hx hb hdg rfl rfl (go (st' := vI v :: vR u :: vI v :: vR u :: r) h hR hS hl hal (am_cons (am_hd hst) (am_cons trivial hst)))
    · exact h.1.elim
  | pop =>
    simp only [am_okop, Bool.and_eq_true, decide_eq_true_eq] at ck
    obtain ⟨hdg, hlen⟩ := ck
    have hlen := am_len hlen
    subst hlen
    simp only [am_act] at h
    split at h
    · exact lv_pop hx hb hdg rfl (go h hR hS hl hal (am_tl hst))
    · exact lv_pop hx hb hdg rfl (go h hR hS hl hal (am_tl hst))
    · exact h.1.elim
  | goto off =>
    simp only [am_okop, Bool.and_eq_true, decide_eq_true_eq] at ck
    obtain ⟨hdg, hlen, hn⟩ := ck
    have hlen := am_len hlen
    subst hlen
    exact lv_goto hx hb hdg (am_tgt_eq hn) (go h hR hS hl hal hst)
  | ifCond cd off =>
    simp only [am_okop, Bool.and_eq_true, decide_eq_true_eq] at ck
    obtain ⟨hdg, hlen, hn⟩ := ck
    have hlen := am_len hlen
    subst hlen
    have ht := am_tgt_eq hn
    obtain ⟨u, r, rfl, hk⟩ := am_i1_inv h
    have hu := am_hd hst
    have ht2 := am_tl hst
    cases cd with
    | eq => exact lv_if_eq hx hb hdg ht (fun q => go (hk.1 ((eq_i32 hu in32_0).mp q)) hR hS hl hal ht2) (fun q => go (hk.2 (fun z => q ((eq_i32 hu in32_0).mpr z))) hR hS hl hal ht2)
    | ne => exact lv_if_ne hx hb hdg ht (fun q => go (hk.2 (fun z => q ((eq_i32 hu in32_0).mpr z))) hR hS hl hal ht2) (fun q => go (hk.1 ((eq_i32 hu in32_0).mp q)) hR hS hl hal ht2)
    | lt => exact lv_if_lt hx hb hdg ht (fun q => go (hk.1 ((lt_i32 hu in32_0).mp q)) hR hS hl hal ht2) (fun q => go (hk.2 (fun z => q ((lt_i32 hu in32_0).mpr z))) hR hS hl hal ht2)
    | ge => exact lv_if_ge hx hb hdg ht (fun q => go (hk.1 ((le_i32 in32_0 hu).mp q)) hR hS hl hal ht2) (fun q => go (hk.2 (fun z => q ((le_i32 in32_0 hu).mpr z))) hR hS hl hal ht2)
    | gt => exact lv_if_gt hx hb hdg ht (fun q => go (hk.1 ((lt_i32 in32_0 hu).mp q)) hR hS hl hal ht2) (fun q => go (hk.2 (fun z => q ((lt_i32 in32_0 hu).mpr z))) hR hS hl hal ht2)
    | le => exact lv_if_le hx hb hdg ht (fun q => go (hk.1 ((le_i32 hu in32_0).mp q)) hR hS hl hal ht2) (fun q => go (hk.2 (fun z => q ((le_i32 hu in32_0).mpr z))) hR hS hl hal ht2)
  | if_icmp cd off =>
    simp only [am_okop, Bool.and_eq_true, decide_eq_true_eq] at ck
    obtain ⟨hdg, hlen, hn⟩ := ck
    have hlen := am_len hlen
    subst hlen
    have ht := am_tgt_eq hn
    obtain ⟨u, v, r, rfl, hk⟩ := am_i2_inv h
    have hv := am_hd hst
    have hu := am_hd (am_tl hst)
    have ht2 := am_tl (am_tl hst)
    cases cd with
    | eq => exact lv_icmp_eq hx hb hdg ht (fun q => go (hk.1 ((eq_i32 hu hv).mp q)) hR hS hl hal ht2) (fun q => go (hk.2 (fun z => q ((eq_i32 hu hv).mpr z))) hR hS hl hal ht2)
    | ne => exact lv_icmp_ne hx hb hdg ht (fun q => go (hk.2 (fun z => q ((eq_i32 hu hv).mpr z))) hR hS hl hal ht2) (fun q => go (hk.1 ((eq_i32 hu hv).mp q)) hR hS hl hal ht2)
    | lt => exact lv_icmp_lt hx hb hdg ht (fun q => go (hk.1 ((lt_i32 hu hv).mp q)) hR hS hl hal ht2) (fun q => go (hk.2 (fun z => q ((lt_i32 hu hv).mpr z))) hR hS hl hal ht2)
    | ge => exact lv_icmp_ge hx hb hdg ht (fun q => go (hk.1 ((le_i32 hv hu).mp q)) hR hS hl hal ht2) (fun q => go (hk.2 (fun z => q ((le_i32 hv hu).mpr z))) hR hS hl hal ht2)
    | gt => exact lv_icmp_gt hx hb hdg ht (fun q => go (hk.1 ((lt_i32 hv hu).mp q)) hR hS hl hal ht2) (fun q => go (hk.2 (fun z => q ((lt_i32 hv hu).mpr z))) hR hS hl hal ht2)
    | le => exact lv_icmp_le hx hb hdg ht (fun q => go (hk.1 ((le_i32 hu hv).mp q)) hR hS hl hal ht2) (fun q => go (hk.2 (fun z => q ((le_i32 hu hv).mpr z))) hR hS hl hal ht2)
  | tableswitch dd lo hi offs =>
    simp only [am_okop, Bool.and_eq_true, decide_eq_true_eq] at ck
    obtain ⟨hdg, ⟨⟨⟨hn, hall⟩, hlen⟩, hlo2⟩, hhi2⟩ := ck
    obtain ⟨u, r, rfl, hk⟩ := am_i1_inv h
    have hu := am_hd hst
    obtain ⟨hk1, hk2⟩ := am_all_app hk
    have hti : (Int32.ofInt u).toInt = u := toInt32 hu
    by_cases ho : u < lo ∨ hi < u
    · exact lv_tableOut hx hb hdg (by rw [hti]; exact ho) (am_tgt_eq hn) (go (hk2.1 ho) hR hS hl hal (am_tl hst))
    · have hj : (u - lo).toNat < offs.toList.length := by omega
      have hoff := List.getElem?_eq_getElem hj
      refine lv_tableIn (off := offs.toList[(u - lo).toNat]) hx hb hdg (by rw [hti]; omega) (by rw [hti]; omega) (by rw [hti, ← Array.getElem?_toList]; exact hoff) (am_tgt_eq ?_) (go (am_tab_at hk1 hoff (by omega)) hR hS hl hal (am_tl hst))
      exact List.all_eq_true.mp hall _ (List.getElem_mem hj)
  | lookupswitch dd ps =>
    simp only [am_okop, Bool.and_eq_true, decide_eq_true_eq] at ck
    obtain ⟨hdg, ⟨⟨hn, hall⟩, hkeys⟩, hinc⟩ := ck
    obtain ⟨u, r, rfl, hk⟩ := am_i1_inv h
    have hu := am_hd hst
    obtain ⟨hk1, hk2⟩ := am_all_app hk
    have hti : (Int32.ofInt u).toInt = u := toInt32 hu
    obtain ⟨off, e1, e2, e3⟩ := am_lkp_at hk1 hk2.1 (fun q hq => List.all_eq_true.mp hall q hq) hn
    exact lv_lookup hx hb hdg hinc (by rw [hti]; exact e1) (am_tgt_eq e3) (go e2 hR hS hl hal (am_tl hst))
  | getfield i =>
    simp only [am_okop, Bool.and_eq_true, decide_eq_true_eq] at ck
    obtain ⟨hdg, hlen, hcl⟩ := ck
    have hlen := am_len hlen
    subst hlen
    simp only [am_act] at h
    split at h
    · rename_i a r
      split at hcl
      · rename_i C T N hC2
        simp only [Bool.and_eq_true, decide_eq_true_eq] at hcl
        obtain ⟨⟨hyN, hT1⟩, hw⟩ := hcl
        have hyN := Nat.blt_eq.mp hyN
        obtain ⟨ty0, hty, hnm, huw, hftl⟩ := am_cls_ok _ _ _ _ hC2
        have key : ∀ t, t ≠ 9 → am_fld Ln a x y = t → W p l e R s mid args below meth c H locs cells slots Qf (F0 mid (pc + 3) ls (am_fe (am_ad b base) σ a y t :: r.map (am_c (am_ad b base)))) →
            W p l e R s mid args below meth c H locs cells slots Qf (F0 mid pc ls (.ref (am_ad b base a) :: r.map (am_c (am_ad b base)))) := by
          intro t ht hf kk
          obtain ⟨⟨n, hkd⟩, hft⟩ := am_fld_inv hf ht
          obtain ⟨k, rfl, hk⟩ := am_kd_cell hkd (by decide) (by decide)
          have hcell : am_cell Ln (am_ad b base) cA σ (k + 1) = .inr (x, am_fv (am_ad b base) σ (k + 1) 0 (am_ftL.getD x [])) := by unfold am_cell; rw [hkd] <;> rfl
          have he := am_ws_get (Ln := Ln) (b := b) (base := base) (cA := cA) (σ := σ) hk
          rw [hcell] at he
          refine va_get (D := D) (ci := x) (C := C) (T := T) (N := N) hx hb hts huw hown hK hR.1 k he hC2 y hyN (hts _ (am_gt_in hw rfl)) (fun z hz => by rw [hT1] at hz; exact hz) ?_ hdg kk
          rw [am_fv_get, am_ft_at hft ht]
          simp
        split at h
        · rename_i e0
          obtain ⟨⟨n, hkd⟩, -⟩ := am_fld_inv e0 (by decide)
          exact key 0 (by decide) e0 (go (st' := vI (σ a y) :: r) h hR hS hl hal (am_cons (am_rel_i hR hkd (by decide) _) (am_tl hst)))
        · rename_i e0
          obtain ⟨⟨n, hkd⟩, -⟩ := am_fld_inv e0 (by decide)
          exact key 1 (by decide) e0 (go (st' := vI (σ a y) :: r) h hR hS hl hal (am_cons (am_rel_i hR hkd (by decide) _) (am_tl hst)))
        · rename_i e0
          exact key 2 (by decide) e0 (go (st' := vR (am_ref a y) :: r) h hR hS hl hal (am_cons trivial (am_tl hst)))
        · exact h.1.elim
      · exact absurd hcl (by decide)
    · exact h.1.elim
  | putfield i =>
    simp only [am_okop, Bool.and_eq_true, decide_eq_true_eq] at ck
    obtain ⟨hdg, hlen, hcl⟩ := ck
    have hlen := am_len hlen
    subst hlen
    simp only [am_act] at h
    split at h
    · rename_i v a r
      split at hcl
      · rename_i C T N hC2
        simp only [Bool.and_eq_true, decide_eq_true_eq] at hcl
        obtain ⟨⟨⟨⟨hyN, hT1⟩, hw⟩, hfin⟩, hdesc⟩ := hcl
        have hyN := Nat.blt_eq.mp hyN
        obtain ⟨ty0, hty, hnm, huw, hftl⟩ := am_cls_ok _ _ _ _ hC2
        have hv := am_hd hst
        have key : ∀ (t : Nat) (ty : FieldType), t ≠ 9 → t ≠ 2 → am_fld Ln a x y = t → parseFieldDescriptor (T y).2.2.1 = some ty → narrow ty (.int (Int32.ofInt v)) = .int (Int32.ofInt v) → fits ty (.int (Int32.ofInt v)) = true →
            (∀ H1 locs1, am_rel Ln b base D cA xs (am_up σ a y v) H1 → va_S (fun q => base ≤ q) H0 H1 locs1 → W p l e R s mid args below meth c H1 locs1 cells slots Qf (F0 mid (pc + 3) ls (r.map (am_c (am_ad b base))))) →
            W p l e R s mid args below meth c H locs cells slots Qf (F0 mid pc ls (.int (Int32.ofInt v) :: .ref (am_ad b base a) :: r.map (am_c (am_ad b base)))) := by
          intro t ty ht ht2 hf hp hn hfit kk
          obtain ⟨⟨n, hkd⟩, hft⟩ := am_fld_inv hf ht
          obtain ⟨k, rfl, hk⟩ := am_kd_cell hkd (by decide) (by decide)
          have hcell : am_cell Ln (am_ad b base) cA σ (k + 1) = .inr (x, am_fv (am_ad b base) σ (k + 1) 0 (am_ftL.getD x [])) := by unfold am_cell; rw [hkd] <;> rfl
          have he := am_ws_get (Ln := Ln) (b := b) (base := base) (cA := cA) (σ := σ) hk
          rw [hcell] at he
          refine va_put (D := D) (ci := x) (C := C) (T := T) (N := N) (ty := ty) hx hb hts huw ty0 hty hnm hown hK hR.1 am_ws_D hS k he hC2 y hyN (hts _ (am_gt_in hw rfl)) (fun z hz => by rw [hT1] at hz; exact hz) hfin hp hn hfit (by rw [am_fv_len, hftl]; exact hyN) hdg (fun H1 locs1 hP1 hD1 hS1 => kk H1 locs1 (am_rel_up hR hkd ⟨fun q => absurd q (by decide), fun _ => hv⟩ ?_) hS1)
          have hcell2 : am_cell Ln (am_ad b base) cA (am_up σ (k + 1) y v) (k + 1) = .inr (x, (am_fv (am_ad b base) σ (k + 1) 0 (am_ftL.getD x [])).set y (.int (Int32.ofInt v))) := by
            unfold am_cell
            rw [hkd]
            show Sum.inr (x, am_fv (am_ad b base) (am_up σ (k + 1) y v) (k + 1) 0 (am_ftL.getD x [])) = _
            rw [am_fv_up (am_ft_at hft ht) ht2]
          rw [hcell2]
          exact hP1
        split at h
        · rename_i e0
          obtain ⟨-, hft⟩ := am_fld_inv e0 (by decide)
          rw [hft] at hdesc
          have hds : (T y).2.2.1 = "I" := by simpa using hdesc
          exact key 0 .int (by decide) (by decide) e0 (by rw [hds]; decide +kernel) rfl rfl (fun H1 locs1 hR1 hS1 => go h hR1 hS1 hl hal (am_tl (am_tl hst)))
        · rename_i e0
          obtain ⟨-, hft⟩ := am_fld_inv e0 (by decide)
          rw [hft] at hdesc
          have hds : (T y).2.2.1 = "Z" := by simpa using hdesc
          obtain ⟨hbv, hk⟩ := h
          exact key 1 .boolean (by decide) (by decide) e0 (by rw [hds]; decide +kernel) (by rcases hbv with q | q <;> rw [q] <;> rfl) (by rcases hbv with q | q <;> rw [q] <;> rfl) (fun H1 locs1 hR1 hS1 => go hk hR1 hS1 hl hal (am_tl (am_tl hst)))
        · exact h.1.elim
      · exact absurd hcl (by decide)
    · exact h.1.elim
  | arraylength =>
    simp only [am_okop, Bool.and_eq_true, decide_eq_true_eq] at ck
    obtain ⟨hdg, hlen⟩ := ck
    have hlen := am_len hlen
    subst hlen
    simp only [am_act] at h
    split at h
    · rename_i a r
      generalize hkd : am_kd Ln a = q at h
      obtain ⟨t, n, ci⟩ := q
      have hn := am_kd_n h0 h4 hkd
      have hin : in32 n := ⟨by omega, by omega⟩
      have fin : ∀ (t0 : Nat) (ty : FieldType), t ≠ 5 → t ≠ 9 → t ≠ 0 → (am_tys cA)[t0]? = some (cA t, ty) → am_sem (am_cl (am_P l Ln b base D cA xs) d) (fun pc ls st σ => am_P l Ln b base D cA xs d m pc ls st σ Q) Q (aN (pc + 1) al (vI n :: r) σ) → W p l e R s mid args below meth c H locs cells slots Qf (F0 mid pc ls ((vR a :: r).map (am_c (am_ad b base)))) := by
        intro t0 ty h5 h9 h00 htys hk
        obtain ⟨k, rfl, hkl⟩ := am_kd_cell hkd h5 h9
        have he := am_ws_get (Ln := Ln) (b := b) (base := base) (cA := cA) (σ := σ) hkl
        by_cases e2 : t = 2
        · subst e2
          have hcell : am_cell Ln (am_ad b base) cA σ (k + 1) = .inl (cA 2, n.toNat, .inr (.inl (fun j => Int64.ofInt (σ (k + 1) j)))) := by unfold am_cell; rw [hkd] <;> rfl
          rw [hcell] at he
          exact va_alen (D := D) (v := Int32.ofInt n) hx hb hK hR.1 k t0 he htys (am_len_i hn.1) hdg (go (st' := vI n :: r) hk hR hS hl hal (am_cons hin (am_tl hst)))
        · have hcell : am_cell Ln (am_ad b base) cA σ (k + 1) = .inl (cA t, n.toNat, .inl (fun j => Int32.ofInt (σ (k + 1) j))) := by
            unfold am_cell
            rw [hkd]
            match t, h00, e2 with
            | 0, h00, _ => exact absurd rfl h00
            | 1, _, _ => rfl
            | 2, _, e2 => exact absurd rfl e2
            | t + 3, _, _ => rfl
          rw [hcell] at he
          exact va_alen (D := D) (v := Int32.ofInt n) hx hb hK hR.1 k t0 he htys (am_len_i hn.1) hdg (go (st' := vI n :: r) hk hR hS hl hal (am_cons hin (am_tl hst)))
      match t, hkd, fin, h with
      | 0, _, _, h => exact h.1.elim
      | 1, _, fin, h => exact fin 0 .int (by decide) (by decide) (by decide) rfl h
      | 2, _, fin, h => exact fin 1 .long (by decide) (by decide) (by decide) rfl h
      | 3, _, fin, h => exact fin 2 .byte (by decide) (by decide) (by decide) rfl h
      | 4, _, fin, h => exact fin 3 .boolean (by decide) (by decide) (by decide) rfl h
      | 5, hkd, _, h =>
        cases a with
        | zero =>
          rw [am_kd_0] at hkd
          cases hkd
          refine va_slen hx hb hX hbl hbA hS hdg ?_
          rw [am_len_i h0]
          exact go (st' := vI Ln :: r) h hR hS hl hal (am_cons hin (am_tl hst))
        | succ k => exact absurd (by rw [hkd]) (am_kd_5 (Ln := Ln) (k := k))
      | 6, hkd, _, h => exact absurd hkd (am_kd_big (by decide) (by decide))
      | 7, hkd, _, h => exact absurd hkd (am_kd_big (by decide) (by decide))
      | 8, hkd, _, h => exact absurd hkd (am_kd_big (by decide) (by decide))
      | 9, _, _, h => exact h.1.elim
      | t + 10, hkd, _, h => exact absurd hkd (am_kd_big (by omega) (by omega))
    · exact h.1.elim
  | iaload =>
    simp only [am_okop, Bool.and_eq_true, decide_eq_true_eq] at ck
    obtain ⟨hdg, hlen⟩ := ck
    have hlen := am_len hlen
    subst hlen
    simp only [am_act] at h
    split at h
    · rename_i i a r
      split at h
      · rename_i n ci hkd
        · obtain ⟨hb1, hk⟩ := h
          obtain ⟨k, rfl, hkl⟩ := am_kd_cell hkd (by decide) (by decide)
          have he := am_ws_get (Ln := Ln) (b := b) (base := base) (cA := cA) (σ := σ) hkl
          have hcell : am_cell Ln (am_ad b base) cA σ (k + 1) = .inl (cA 1, n.toNat, .inl (fun j => Int32.ofInt (σ (k + 1) j))) := by unfold am_cell; rw [hkd] <;> rfl
          rw [hcell] at he
          have hn := am_kd_n h0 h4 hkd
          have hi := am_hd hst
          refine va_iald (D := D) hx hb hK hR.1 k 0 he rfl (vpin_i hb1.1 (by omega) hi) hdg ?_
          rw [clamp_i hb1.1 hi, show ((i.toNat : Nat) : Int) = i by omega]
          exact go (st' := vI (σ (k + 1) i) :: r) hk hR hS hl hal (am_cons (am_rel_i hR hkd (by decide) _) (am_tl (am_tl hst)))
      · rename_i n ci hkd
        cases a with
        | zero =>
          rw [am_kd_0] at hkd
          cases hkd
          obtain ⟨hb1, hk⟩ := h
          have hi := am_hd hst
          have hv := hR.2.2 i.toNat (by omega)
          rw [show ((i.toNat : Nat) : Int) = i by omega] at hv
          refine va_sld hx hb hX hbl hbA hS (vpin_i hb1.1 (by omega) hi) hdg ?_
          rw [clamp_i hb1.1 hi, ← am_ofInt_toInt (xs i.toNat), ← hv]
          exact go (st' := vI (σ 0 i) :: r) hk hR hS hl hal (am_cons (by rw [am_in, hv]; exact in32_of _) (am_tl (am_tl hst)))
        | succ k => exact absurd (by rw [hkd]) (am_kd_5 (Ln := Ln) (k := k))
      · exact h.1.elim
    · exact h.1.elim
  | laload =>
    simp only [am_okop, Bool.and_eq_true, decide_eq_true_eq] at ck
    obtain ⟨hdg, hlen⟩ := ck
    have hlen := am_len hlen
    subst hlen
    simp only [am_act] at h
    split at h
    · rename_i i a r
      split at h
      · rename_i n ci hkd
        · obtain ⟨hb1, hk⟩ := h
          obtain ⟨k, rfl, hkl⟩ := am_kd_cell hkd (by decide) (by decide)
          have he := am_ws_get (Ln := Ln) (b := b) (base := base) (cA := cA) (σ := σ) hkl
          have hcell : am_cell Ln (am_ad b base) cA σ (k + 1) = .inl (cA 2, n.toNat, .inr (.inl (fun j => Int64.ofInt (σ (k + 1) j)))) := by unfold am_cell; rw [hkd] <;> rfl
          rw [hcell] at he
          have hn := am_kd_n h0 h4 hkd
          have hi := am_hd hst
          refine va_lald (D := D) hx hb hK hR.1 k 1 he rfl (vpin_i hb1.1 (by omega) hi) hdg ?_
          rw [clamp_i hb1.1 hi, show ((i.toNat : Nat) : Int) = i by omega]
          exact go (st' := vL (σ (k + 1) i) :: r) hk hR hS hl hal (am_cons (am_rel_l hR hkd _) (am_tl (am_tl hst)))
      · exact h.1.elim
    · exact h.1.elim
  | baload =>
    simp only [am_okop, Bool.and_eq_true, decide_eq_true_eq] at ck
    obtain ⟨hdg, hlen⟩ := ck
    have hlen := am_len hlen
    subst hlen
    simp only [am_act] at h
    split at h
    · rename_i i a r
      split at h
      · rename_i n ci hkd
        · obtain ⟨hb1, hk⟩ := h
          obtain ⟨k, rfl, hkl⟩ := am_kd_cell hkd (by decide) (by decide)
          have he := am_ws_get (Ln := Ln) (b := b) (base := base) (cA := cA) (σ := σ) hkl
          have hcell : am_cell Ln (am_ad b base) cA σ (k + 1) = .inl (cA 3, n.toNat, .inl (fun j => Int32.ofInt (σ (k + 1) j))) := by unfold am_cell; rw [hkd] <;> rfl
          rw [hcell] at he
          have hn := am_kd_n h0 h4 hkd
          have hi := am_hd hst
          refine va_bald (D := D) hx hb hK hR.1 k 2 he rfl (vpin_i hb1.1 (by omega) hi) hdg ?_
          rw [clamp_i hb1.1 hi, show ((i.toNat : Nat) : Int) = i by omega]
          exact go (st' := vI (σ (k + 1) i) :: r) hk hR hS hl hal (am_cons (am_rel_i hR hkd (by decide) _) (am_tl (am_tl hst)))
      · rename_i n ci hkd
        · obtain ⟨hb1, hk⟩ := h
          obtain ⟨k, rfl, hkl⟩ := am_kd_cell hkd (by decide) (by decide)
          have he := am_ws_get (Ln := Ln) (b := b) (base := base) (cA := cA) (σ := σ) hkl
          have hcell : am_cell Ln (am_ad b base) cA σ (k + 1) = .inl (cA 4, n.toNat, .inl (fun j => Int32.ofInt (σ (k + 1) j))) := by unfold am_cell; rw [hkd] <;> rfl
          rw [hcell] at he
          have hn := am_kd_n h0 h4 hkd
          have hi := am_hd hst
          refine va_zald (D := D) hx hb hK hR.1 k 3 he rfl (vpin_i hb1.1 (by omega) hi) hdg ?_
          rw [clamp_i hb1.1 hi, show ((i.toNat : Nat) : Int) = i by omega]
          exact go (st' := vI (σ (k + 1) i) :: r) hk hR hS hl hal (am_cons (am_rel_i hR hkd (by decide) _) (am_tl (am_tl hst)))
      · exact h.1.elim
    · exact h.1.elim
  | iastore =>
    simp only [am_okop, Bool.and_eq_true, decide_eq_true_eq] at ck
    obtain ⟨hdg, hlen⟩ := ck
    have hlen := am_len hlen
    subst hlen
    simp only [am_act] at h
    split at h
    · rename_i v i a r
      split at h
      · rename_i n ci hkd
        · skip
          obtain ⟨hb1, hk⟩ := h
          obtain ⟨k, rfl, hkl⟩ := am_kd_cell hkd (by decide) (by decide)
          have he := am_ws_get (Ln := Ln) (b := b) (base := base) (cA := cA) (σ := σ) hkl
          have hcell : ∀ σ' : AS, am_cell Ln (am_ad b base) cA σ' (k + 1) = .inl (cA 1, n.toNat, .inl (fun j => Int32.ofInt (σ' (k + 1) j))) := by intro σ'; unfold am_cell; rw [hkd] <;> rfl
          rw [hcell σ] at he
          have hn := am_kd_n h0 h4 hkd
          have hi := am_hd (am_tl hst)
          have hv := am_hd hst
          refine va_iast (D := D) hx hb hK hR.1 am_ws_D hS k 0 he rfl (vpin_i hb1.1 (by omega) hi) hdg (fun H1 locs1 hP1 hD1 hS1 => go hk (am_rel_up hR hkd (⟨fun q => absurd q (by decide), fun _ => hv⟩) ?_) hS1 hl hal (am_tl (am_tl (am_tl hst))))
          rw [hcell, am_upd_i hb1.1 hi]
          exact hP1
      · exact h.1.elim
    · exact h.1.elim
  | lastore =>
    simp only [am_okop, Bool.and_eq_true, decide_eq_true_eq] at ck
    obtain ⟨hdg, hlen⟩ := ck
    have hlen := am_len hlen
    subst hlen
    simp only [am_act] at h
    split at h
    · rename_i v i a r
      split at h
      · rename_i n ci hkd
        · skip
          obtain ⟨hb1, hk⟩ := h
          obtain ⟨k, rfl, hkl⟩ := am_kd_cell hkd (by decide) (by decide)
          have he := am_ws_get (Ln := Ln) (b := b) (base := base) (cA := cA) (σ := σ) hkl
          have hcell : ∀ σ' : AS, am_cell Ln (am_ad b base) cA σ' (k + 1) = .inl (cA 2, n.toNat, .inr (.inl (fun j => Int64.ofInt (σ' (k + 1) j)))) := by intro σ'; unfold am_cell; rw [hkd] <;> rfl
          rw [hcell σ] at he
          have hn := am_kd_n h0 h4 hkd
          have hi := am_hd (am_tl hst)
          have hv := am_hd hst
          refine va_last (D := D) hx hb hK hR.1 am_ws_D hS k 1 he rfl (vpin_i hb1.1 (by omega) hi) hdg (fun H1 locs1 hP1 hD1 hS1 => go hk (am_rel_up hR hkd (⟨fun _ => hv, fun q => absurd rfl q⟩) ?_) hS1 hl hal (am_tl (am_tl (am_tl hst))))
          rw [hcell, am_upd_l hb1.1 hi]
          exact hP1
      · exact h.1.elim
    · exact h.1.elim
  | bastore =>
    simp only [am_okop, Bool.and_eq_true, decide_eq_true_eq] at ck
    obtain ⟨hdg, hlen⟩ := ck
    have hlen := am_len hlen
    subst hlen
    simp only [am_act] at h
    split at h
    · rename_i v i a r
      split at h
      · rename_i n ci hkd
        · skip
          obtain ⟨hb1, hk⟩ := h
          obtain ⟨k, rfl, hkl⟩ := am_kd_cell hkd (by decide) (by decide)
          have he := am_ws_get (Ln := Ln) (b := b) (base := base) (cA := cA) (σ := σ) hkl
          have hcell : ∀ σ' : AS, am_cell Ln (am_ad b base) cA σ' (k + 1) = .inl (cA 3, n.toNat, .inl (fun j => Int32.ofInt (σ' (k + 1) j))) := by intro σ'; unfold am_cell; rw [hkd] <;> rfl
          rw [hcell σ] at he
          have hn := am_kd_n h0 h4 hkd
          have hi := am_hd (am_tl hst)
          have hv := am_hd hst
          refine va_bast (D := D) hx hb hK hR.1 am_ws_D hS k 2 he rfl (vpin_i hb1.1 (by omega) hi) hdg (fun H1 locs1 hP1 hD1 hS1 => go hk (am_rel_up hR hkd (⟨fun q => absurd q (by decide), fun _ => in32_of _⟩) ?_) hS1 hl hal (am_tl (am_tl (am_tl hst))))
          rw [hcell, am_upd_i hb1.1 hi, show Int32.ofInt (w8 v) = vp_nar .byte (Int32.ofInt v) by rw [w8, am_ofInt_toInt]; rfl]
          exact hP1
      · rename_i n ci hkd
        · skip
          obtain ⟨hb1, hk⟩ := h
          obtain ⟨k, rfl, hkl⟩ := am_kd_cell hkd (by decide) (by decide)
          have he := am_ws_get (Ln := Ln) (b := b) (base := base) (cA := cA) (σ := σ) hkl
          have hcell : ∀ σ' : AS, am_cell Ln (am_ad b base) cA σ' (k + 1) = .inl (cA 4, n.toNat, .inl (fun j => Int32.ofInt (σ' (k + 1) j))) := by intro σ'; unfold am_cell; rw [hkd] <;> rfl
          rw [hcell σ] at he
          have hn := am_kd_n h0 h4 hkd
          have hi := am_hd (am_tl hst)
          have hv := am_hd hst
          refine va_zast (D := D) hx hb hK hR.1 am_ws_D hS k 3 he rfl (vpin_i hb1.1 (by omega) hi) hdg (fun H1 locs1 hP1 hD1 hS1 => go hk (am_rel_up hR hkd (⟨fun q => absurd q (by decide), fun _ => in32_of _⟩) ?_) hS1 hl hal (am_tl (am_tl (am_tl hst))))
          rw [hcell, am_upd_i hb1.1 hi, show Int32.ofInt (bAnd v 1) = vp_nar .boolean (Int32.ofInt v) by rw [bAnd, am_ofInt_toInt]; rfl]
          exact hP1
      · exact h.1.elim
    · exact h.1.elim
  | invokevirtual i =>
    simp only [am_okop, Bool.and_eq_true, decide_eq_true_eq] at ck
    obtain ⟨hdg, ⟨⟨⟨⟨⟨hlen, hlink⟩, hx0⟩, hx1⟩, hstat⟩, hny⟩, hcls⟩ := ck
    have hlen := am_len hlen
    subst hlen
    obtain ⟨hn, hr4, hexp, hrcv, T, hcall, hk⟩ := am_inv_inv h
    exact am_callV_step hC hR hS hcc hss hl hst hdg hlink (Nat.blt_eq.mp hx0) (Nat.blt_eq.mp hx1) (am_len hstat) (am_len hny) hcls hn hr4 hexp hrcv hcall (fun v σ' H1 locs1 hT hrel hsh hS1 => am_kont_go hsh hk hT fun st2 hk2 hv e2 => by rw [← e2]; exact go hk2 hrel hS1 hl hal (am_rest_in hst hv))
  | invokestatic i =>
    simp only [am_okop, Bool.and_eq_true, decide_eq_true_eq] at ck
    obtain ⟨hdg, hlen, hck⟩ := ck
    have hlen := am_len hlen
    subst hlen
    by_cases e1 : cc = 1
    · subst e1
      simp only [Bool.and_eq_true, decide_eq_true_eq] at hck
      obtain ⟨⟨⟨⟨hlink, hx0⟩, hx1⟩, hstat⟩, hny⟩ := hck
      obtain ⟨hn, hr4, hexp, hrcv, T, hcall, hk⟩ := am_inv_inv h
      exact am_callS_step hC hR hS hcc hss hl hst hdg hlink (Nat.blt_eq.mp hx0) (Nat.blt_eq.mp hx1) (am_len hstat) (am_len hny) hn hr4 hexp hcall (fun v σ' H1 locs1 hT hrel hsh hS1 => am_kont_go hsh hk hT fun st2 hk2 hv e2 => by rw [← e2]; exact go hk2 hrel hS1 hl hal (am_rest_in hst hv))
    · by_cases e2 : cc = 2
      · subst e2
        simp only [Bool.and_eq_true, decide_eq_true_eq] at hck
        obtain ⟨⟨⟨⟨hlink, hx0⟩, hx1⟩, hstat⟩, hny⟩ := hck
        obtain ⟨hn, hr4, hexp, hrcv, T, hcall, hk⟩ := am_inv_inv h
        exact am_callN_step hC hR hS hcc hss hl hst hdg hlink (Nat.blt_eq.mp hx0) (Nat.blt_eq.mp hx1) (am_len hstat) (am_len hny) hn hr4 hexp hcall (fun v σ' H1 locs1 hT hrel hsh hS1 => am_kont_go hsh hk hT fun st2 hk2 hv e2 => by rw [← e2]; exact go hk2 hrel hS1 hl hal (am_rest_in hst hv))
      · by_cases e3 : cc = 3
        · subst e3
          have hlink : lw_tbl[w]? = some (Jvm.Cond.methodLink (am_my m).1.cls i arraycopyName) := by simpa using hck
          have h : am_sem (am_cl (am_P l Ln b base D cA xs) d) (fun pc ls st σ => am_P l Ln b base D cA xs d m pc ls st σ Q) Q (am_acp Ln al st σ (pc + 3)) := h
          unfold am_acp at h
          split at h
          · rename_i n dp a1 sp a0 r
            split at h
            · rename_i n0 c0 n1 c1 hkd0 hkd1 hr4
              obtain ⟨hb1, hk⟩ := h
              have hr4 := Nat.ble_eq.mp hr4
              obtain ⟨k0, rfl, hkl0⟩ := am_kd_cell hkd0 (by decide) (by decide)
              obtain ⟨k1, rfl, hkl1⟩ := am_kd_cell hkd1 (by decide) (by decide)
              have he0 := am_ws_get (Ln := Ln) (b := b) (base := base) (cA := cA) (σ := σ) hkl0
              have he1 := am_ws_get (Ln := Ln) (b := b) (base := base) (cA := cA) (σ := σ) hkl1
              have hcell0 : am_cell Ln (am_ad b base) cA σ (k0 + 1) = .inl (cA 1, n0.toNat, .inl (fun j => Int32.ofInt (σ (k0 + 1) j))) := by unfold am_cell; rw [hkd0] <;> rfl
              have hcell1 : ∀ σ' : AS, am_cell Ln (am_ad b base) cA σ' (k1 + 1) = .inl (cA 1, n1.toNat, .inl (fun j => Int32.ofInt (σ' (k1 + 1) j))) := by intro σ'; unfold am_cell; rw [hkd1] <;> rfl
              rw [hcell0] at he0
              rw [hcell1] at he1
              have hn0 := am_kd_n h0 h4 hkd0
              have hn1 := am_kd_n h0 h4 hkd1
              have in1 := am_hd hst
              have in2 := am_hd (am_tl hst)
              have in3 := am_hd (am_tl (am_tl (am_tl hst)))
              have c1 := clamp_i hb1.2.2.1 in1
              have c2 := clamp_i hb1.2.1 in2
              have c3 := clamp_i hb1.1 in3
              have neg : ∀ {z : Int}, 0 ≤ z → in32 z → ¬ Int32.ofInt z < 0 := fun hz hi q => by
                have := (lt_i32 hi in32_0).mp q
                omega
              refine va_copyi (D := D) hx hb (by rw [hml]; exact hl.2.1.symm) hown (hts _ (am_gt_in hlink rfl)) (hts _ am_w_ac1) (hts _ am_w_ac2) (hts _ am_w_ac3) hK hR.1 am_ws_D hS k0 k1 0 0 he0 he1 rfl rfl rfl (neg hb1.1 in3) (neg hb1.2.1 in2) (neg hb1.2.2.1 in1) (by rw [c3, c1]; omega) (by rw [c2, c1]; omega) (fun _ _ => rfl) (by omega) ?_ hdg (fun H1 locs1 hP1 hD1 hS1 => go hk ?_ hS1 hl hal (am_tl (am_tl (am_tl (am_tl (am_tl hst))))))
              · have h8 := am_cats (ad := am_ad b base) hr4
                have e9 : nativeFrameWords "java/lang/System" "arraycopy" 5 = 7 := by decide +kernel
                rw [e9]
                omega
              · rw [c1, c2, c3] at hP1
                exact am_rel_cpy hR hkd0 hkd1 hb1.1 hb1.2.1 hb1.2.2.1 hP1
            · exact h.1.elim
          · exact h.1.elim
        · by_cases e4 : cc = 4
          · subst e4
            have hlink : lw_tbl[w]? = some (Jvm.Cond.methodLink (am_my m).1.cls i Lib.Math.max.name) := by simpa using hck
            obtain ⟨u, v, r, rfl, hk⟩ := am_i2_inv h
            split at hk
            · rename_i hr4
              have h8 := am_cats (ad := am_ad b base) (Nat.ble_eq.mp hr4)
              refine va_mmax hx hb (by rw [hml]; exact hl.2.1.symm) hown (hts _ (am_gt_in hlink rfl)) (hts _ am_w_max1) (hts _ am_w_ma0) (hts _ am_w_max2) (by omega) (by omega) hcc hss hdg ?_
              rw [max_i (am_hd (am_tl hst)) (am_hd hst)]
              exact go (st' := vI (max u v) :: r) hk hR hS hl hal (am_cons (in32_max (am_hd (am_tl hst)) (am_hd hst)) (am_tl (am_tl hst)))
            · exact hk.1.elim
          · by_cases e5 : cc = 5
            · subst e5
              have hlink : lw_tbl[w]? = some (Jvm.Cond.methodLink (am_my m).1.cls i Lib.Math.min.name) := by simpa using hck
              obtain ⟨u, v, r, rfl, hk⟩ := am_i2_inv h
              split at hk
              · rename_i hr4
                have h8 := am_cats (ad := am_ad b base) (Nat.ble_eq.mp hr4)
                refine va_mmin hx hb (by rw [hml]; exact hl.2.1.symm) hown (hts _ (am_gt_in hlink rfl)) (hts _ am_w_min1) (hts _ am_w_ma0) (hts _ am_w_min2) (by omega) (by omega) hcc hss hdg ?_
                rw [min_i (am_hd (am_tl hst)) (am_hd hst)]
                exact go (st' := vI (min u v) :: r) hk hR hS hl hal (am_cons (in32_min (am_hd (am_tl hst)) (am_hd hst)) (am_tl (am_tl hst)))
              · exact hk.1.elim
            · exfalso
              revert hck
              split <;> simp_all
  | ireturn =>
    simp only [am_okop, Bool.and_eq_true, decide_eq_true_eq] at ck
    obtain ⟨hdg, hlen, hck⟩ := ck
    have hlen := am_len hlen
    subst hlen
    simp only [am_act] at h
    split at h
    · rename_i v
      have hv := am_hd hst
      split at h
      · obtain ⟨hbv, hq⟩ := h
        refine hret (some (vI v)) σ H locs pc ls hq hR hS ⟨hdg, ?_, hv⟩
        split at hck
        · rename_i e1 e2; cases e2
        · rename_i e1 _; exact Or.inr ⟨e1, hbv⟩
        · cases hck
      · rename_i hne
        refine hret (some (vI v)) σ H locs pc ls h hR hS ⟨hdg, ?_, hv⟩
        split at hck
        · rename_i e1; exact Or.inl e1
        · exact absurd rfl hne
        · cases hck
    · exact h.1.elim
  | lreturn =>
    simp only [am_okop, Bool.and_eq_true, decide_eq_true_eq] at ck
    obtain ⟨hdg, hlen, hck⟩ := ck
    have hlen := am_len hlen
    subst hlen
    simp only [am_act] at h
    split at h
    · rename_i v
      exact hret (some (vL v)) σ H locs pc ls h hR hS ⟨hdg, am_len hck, am_hd hst⟩
    · exact h.1.elim
  | return_ =>
    simp only [am_okop, Bool.and_eq_true, decide_eq_true_eq] at ck
    obtain ⟨hdg, hlen, hck⟩ := ck
    have hlen := am_len hlen
    subst hlen
    simp only [am_act] at h
    split at h
    · exact hret none σ H locs pc ls h hR hS ⟨hdg, am_len hck⟩
    · exact h.1.elim
  | _ => exact h.1.elim
