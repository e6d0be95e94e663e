/-! the law: from its entry to its loop, and what of the abstract machine is enough -/
theorem ao_arr {s : State} {args : Array Value} {ty : FieldType} (h : (Cond.arrayClass ty).before args s = true) : ∃ cA, ArrOfT s cA ty ∧ s.vm.findClass ("[" ++ ty.toString) = some cA := by
  obtain ⟨c, k, comp, h1, h2, h3⟩ := Cond.arrayClass_spec h
  exact ⟨c, fun n z => ⟨fun k h => (by cases h), k, h2, comp, h3⟩, h1⟩
set_option maxHeartbeats 40000000 in
set_option maxRecDepth 100000 in
theorem am_start (hmain : ∀ (Ln : Int) (xs : Nat → Int32), 0 ≤ Ln → Ln ≤ 4096 → am_E Ln 1000 0 16 [vR 0, vR 1, vR 82, vU] [] (ao_σ Ln xs) (fun r _ => r = some (vI 1)))
    {p : Program} {e : Env} {s : State} {m : MethodId} {below : List Frame} {meth : Method} {c : Code} (l : Launch) {b L : Nat} {xs : Nat → Int32} (hL : L ≤ 4096) (C0 : lw_At p s m meth c b L xs) : W p l e room_1 s m #[Value.ref b] below meth c s.heap [] 0 0 (lw_Z below #[Value.ref b] s) (entryFrame m ([Value.ref b] : List Value).toArray 4) := by
  obtain ⟨hx, hb, hr, hml, hown, htsL, hX, hbl, hlocks, hgv⟩ := C0
  have hts : ∀ w ∈ am_gt, w.before #[Value.ref b] s = true := fun w hw => htsL w (List.mem_filter.mp hw).1
  have hN : am_nest s := fun a i x h hm => va_Nw.of rfl (htsL _ hm)
  obtain ⟨c0, iS0, hKn0⟩ := u_known (C := RX0) (T := TX0) (N := 12) (n := 12) hts (am_uw_in am_uw0 am_ug0) (hts (.instantiable RX0 12) (am_gt_in (i := 527) (by decide +kernel) (by decide +kernel)))
  obtain ⟨c1, iS1, hKn1⟩ := u_known (C := RX1) (T := TX1) (N := 6) (n := 6) hts (am_uw_in am_uw1 am_ug1) (hts (.instantiable RX1 6) (am_gt_in (i := 574) (by decide +kernel) (by decide +kernel)))
  obtain ⟨c2, iS2, hKn2⟩ := u_known (C := RX2) (T := TX2) (N := 5) (n := 5) hts (am_uw_in am_uw2 am_ug2) (hts (.instantiable RX2 5) (am_gt_in (i := 250) (by decide +kernel) (by decide +kernel)))
  obtain ⟨c3, iS3, hKn3⟩ := u_known (C := RX3) (T := TX3) (N := 12) (n := 12) hts (am_uw_in am_uw3 am_ug3) (hts (.instantiable RX3 12) (am_gt_in (i := 183) (by decide +kernel) (by decide +kernel)))
  obtain ⟨c4, iS4, hKn4⟩ := u_known (C := RX4) (T := TX4) (N := 7) (n := 7) hts (am_uw_in am_uw4 am_ug4) (hts (.instantiable RX4 7) (am_gt_in (i := 496) (by decide +kernel) (by decide +kernel)))
  obtain ⟨c5, iS5, hKn5⟩ := u_known (C := RX5) (T := TX5) (N := 3) (n := 3) hts (am_uw_in am_uw5 am_ug5) (hts (.instantiable RX5 3) (am_gt_in (i := 162) (by decide +kernel) (by decide +kernel)))
  obtain ⟨c6, iS6, hKn6⟩ := u_known (C := RX6) (T := TX6) (N := 17) (n := 17) hts (am_uw_in am_uw6 am_ug6) (hts (.instantiable RX6 17) (am_gt_in (i := 368) (by decide +kernel) (by decide +kernel)))
  obtain ⟨c7, iS7, hKn7⟩ := u_known (C := RX7) (T := TX7) (N := 15) (n := 15) hts (am_uw_in am_uw7 am_ug7) (hts (.instantiable RX7 15) (am_gt_in (i := 273) (by decide +kernel) (by decide +kernel)))
  obtain ⟨c8, iS8, hKn8⟩ := u_known (C := RX8) (T := TX8) (N := 8) (n := 8) hts (am_uw_in am_uw8 am_ug8) (hts (.instantiable RX8 8) (am_gt_in (i := 337) (by decide +kernel) (by decide +kernel)))
  obtain ⟨c9, iS9, hKn9⟩ := u_known (C := RX9) (T := TX9) (N := 13) (n := 13) hts (am_uw_in am_uw9 am_ug9) (hts (.instantiable RX9 13) (am_gt_in (i := 374) (by decide +kernel) (by decide +kernel)))
  obtain ⟨c10, iS10, hKn10⟩ := u_known (C := RX10) (T := TX10) (N := 2) (n := 2) hts (am_uw_in am_uw10 am_ug10) (hts (.instantiable RX10 2) (am_gt_in (i := 147) (by decide +kernel) (by decide +kernel)))
  obtain ⟨c11, iS11, hKn11⟩ := u_known (C := RX11) (T := TX11) (N := 13) (n := 13) hts (am_uw_in am_uw11 am_ug11) (hts (.instantiable RX11 13) (am_gt_in (i := 139) (by decide +kernel) (by decide +kernel)))
  obtain ⟨c12, iS12, hKn12⟩ := u_known (C := RX12) (T := TX12) (N := 82) (n := 82) hts (am_uw_in am_uw12 am_ug12) (hts (.instantiable RX12 82) (am_gt_in (i := 1213) (by decide +kernel) (by decide +kernel)))
  obtain ⟨cA1, hA1⟩ := ao_arr (s := s) (hts (.arrayClass .int) (am_gt_in (i := 160) (by decide +kernel) (by decide +kernel)))
  obtain ⟨cA2, hA2⟩ := ao_arr (s := s) (hts (.arrayClass .long) (am_gt_in (i := 335) (by decide +kernel) (by decide +kernel)))
  obtain ⟨cA3, hA3⟩ := ao_arr (s := s) (hts (.arrayClass .byte) (am_gt_in (i := 1465) (by decide +kernel) (by decide +kernel)))
  obtain ⟨cA4, hA4⟩ := ao_arr (s := s) (hts (.arrayClass .boolean) (am_gt_in (i := 248) (by decide +kernel) (by decide +kernel)))
  obtain ⟨dC, dI, hKc⟩ : ∃ (dC : Nat → ClassId) (dI : Nat → Nat → Nat), ∀ (k : Nat) (q : vw_C), am_cls[k]? = some q → u_Kn s q.1 q.2.1 q.2.2 (dC k) (dI k) := by
    refine ⟨fun k => if k = 0 then c0 else if k = 1 then c1 else if k = 2 then c2 else if k = 3 then c3 else if k = 4 then c4 else if k = 5 then c5 else if k = 6 then c6 else if k = 7 then c7 else if k = 8 then c8 else if k = 9 then c9 else if k = 10 then c10 else if k = 11 then c11 else c12, fun k => if k = 0 then iS0 else if k = 1 then iS1 else if k = 2 then iS2 else if k = 3 then iS3 else if k = 4 then iS4 else if k = 5 then iS5 else if k = 6 then iS6 else if k = 7 then iS7 else if k = 8 then iS8 else if k = 9 then iS9 else if k = 10 then iS10 else if k = 11 then iS11 else iS12, ?_⟩
    intro k q hq
    match k, hq with
    | 0, hq => cases hq; exact hKn0
    | 1, hq => cases hq; exact hKn1
    | 2, hq => cases hq; exact hKn2
    | 3, hq => cases hq; exact hKn3
    | 4, hq => cases hq; exact hKn4
    | 5, hq => cases hq; exact hKn5
    | 6, hq => cases hq; exact hKn6
    | 7, hq => cases hq; exact hKn7
    | 8, hq => cases hq; exact hKn8
    | 9, hq => cases hq; exact hKn9
    | 10, hq => cases hq; exact hKn10
    | 11, hq => cases hq; exact hKn11
    | 12, hq => cases hq; exact hKn12
    | k + 13, hq => simp [am_cls] at hq
  obtain ⟨D, hD⟩ : ∃ D : va_G, D = (dC, dI) := ⟨_, rfl⟩
  obtain ⟨cA, hcA⟩ : ∃ cA : Nat → ClassId, cA = fun t => if t = 1 then cA1 else if t = 2 then cA2 else if t = 3 then cA3 else cA4 := ⟨_, rfl⟩
  have hK : va_K D am_cls (am_tys cA) s := by
    subst hD
    subst hcA
    refine ⟨hKc, fun k q hq => ?_⟩
    match k, hq with
    | 0, hq => cases hq; exact hA1
    | 1, hq => cases hq; exact hA2
    | 2, hq => cases hq; exact hA3
    | 3, hq => cases hq; exact hA4
    | k + 4, hq => simp [am_tys] at hq
  obtain ⟨base, hbs⟩ : ∃ base, base = s.heap.size := ⟨_, rfl⟩
  have hbase : b < base := by rw [hbs]; exact hbl
  have hS : va_S (fun q => base ≤ q) s.heap s.heap [] := va_S.rf
  have hR : ao_rel b base D cA (ao_SS 0) 0 s.heap := ⟨fun k q hq => by have := ao_ws_out hq; omega, by omega⟩
  have hl := lv_entry ([.ref b]) (n := 4) (Nat.le_of_ble_eq_true rfl)
  rw [lg_entry_eq]
  generalize (lg_sl ([.ref b]) ++ List.replicate (4 - (lg_sl ([.ref b])).length) Slot.unset).toArray = ls at hl ⊢
  have hl : lv_has ls 4 [(0, .ref b)] := hl
  refine ao_new (ci := 11) (C := RX11) (T := TX11) (N := 13) (ty := tyX11) hx hb hown hts hK hR hS (am_gt_in (i := 138) (by decide +kernel) (by decide +kernel)) (am_gt_in (i := 139) (by decide +kernel) (by decide +kernel)) (am_gt_in (i := 122) (by decide +kernel) (by decide +kernel)) (by decide +kernel) rfl (am_uw_in am_uw11 am_ug11) tyX11_ok (by decide +kernel) (by decide +kernel) (by decide +kernel) (Nat.le_of_ble_eq_true rfl) (Nat.le_of_ble_eq_true rfl) (show decode code 0 = .ok (.new 7, 3) by decide +kernel) (fun H hR hS => ?_)
  refine lv_dup hx hb (show decode code 3 = .ok (.dup, 1) by decide +kernel) rfl ?_
  refine ao_call (va_runI (As := []) (rest := [.ref (base + 0)]) ⟨hx, hb, hml, hown, hts⟩ (ao_c_X11_init l hbase) (cwI 0 hts (am_goodIn (fun w hw => (List.mem_cons.mp hw).elim (fun q => by rw [q]; exact (am_gt_in (i := 142) (by decide +kernel) (by decide +kernel))) id)) rfl rfl rfl (hts _ (am_gt_in (i := 122) (by decide +kernel) (by decide +kernel))) (hts (.methodLink R_law 9 yX11_init) (am_gt_in (i := 140) (by decide +kernel) (by decide +kernel))) (hts _ (am_gt_in (i := 141) (by decide +kernel) (by decide +kernel))) rfl ⟨by decide +kernel, by decide +kernel, by decide +kernel⟩ ⟨Nat.le_of_ble_eq_true rfl, Nat.le_of_ble_eq_true rfl⟩) ⟨ao_blind, fun U hU hW => ⟨rfl, by rw [hU]; exact hR, va_K.moved hW.alike hK, am_nest_warm hW hN⟩⟩ rfl rfl hl.1 rfl (lv_room (Nat.le_of_ble_eq_true rfl)) (show decode code 4 = .ok (.invokespecial 9, 3) by decide +kernel) ⟨Nat.le_of_ble_eq_true rfl, Nat.le_of_ble_eq_true rfl⟩) hS (fun H locs hR hS => ?_)
  refine lv_astore_n (lv' := [(1, .ref (base + 0)), (0, .ref b)]) hx hb (show decode code 7 = .ok (.astore_n 1, 1) by decide +kernel) rfl hl (by decide) rfl (fun ls hl => ?_)
  refine ao_new (ci := 12) (C := RX12) (T := TX12) (N := 82) (ty := tyX12) hx hb hown hts hK hR hS (am_gt_in (i := 1212) (by decide +kernel) (by decide +kernel)) (am_gt_in (i := 1213) (by decide +kernel) (by decide +kernel)) (am_gt_in (i := 134) (by decide +kernel) (by decide +kernel)) (by decide +kernel) rfl (am_uw_in am_uw12 am_ug12) tyX12_ok (by decide +kernel) (by decide +kernel) (by decide +kernel) (Nat.le_of_ble_eq_true rfl) (Nat.le_of_ble_eq_true rfl) (show decode code 8 = .ok (.new 10, 3) by decide +kernel) (fun H hR hS => ?_)
  refine lv_dup hx hb (show decode code 11 = .ok (.dup, 1) by decide +kernel) rfl ?_
  refine ao_callM (va_runI (As := []) (rest := [.ref (base + 81)]) ⟨hx, hb, hml, hown, hts⟩ (ao_c_X12_init l hbase) (cwI 0 hts (am_goodIn (fun w hw => (List.mem_cons.mp hw).elim (fun q => by rw [q]; exact (am_gt_in (i := 1216) (by decide +kernel) (by decide +kernel))) id)) rfl rfl rfl (hts _ (am_gt_in (i := 134) (by decide +kernel) (by decide +kernel))) (hts (.methodLink R_law 12 yX12_init) (am_gt_in (i := 1214) (by decide +kernel) (by decide +kernel))) (hts _ (am_gt_in (i := 1215) (by decide +kernel) (by decide +kernel))) rfl ⟨by decide +kernel, by decide +kernel, by decide +kernel⟩ ⟨Nat.le_of_ble_eq_true rfl, Nat.le_of_ble_eq_true rfl⟩) ⟨ao_blind, fun U hU hW => ⟨rfl, by rw [hU]; exact hR, va_K.moved hW.alike hK, am_nest_warm hW hN⟩⟩ rfl rfl hl.1 rfl (lv_room (Nat.le_of_ble_eq_true rfl)) (show decode code 12 = .ok (.invokespecial 12, 3) by decide +kernel) ⟨Nat.le_of_ble_eq_true rfl, Nat.le_of_ble_eq_true rfl⟩) hS (fun H locs hR hS => ?_)
  refine lv_astore_n (lv' := [(2, .ref (base + 81)), (1, .ref (base + 0)), (0, .ref b)]) hx hb (show decode code 15 = .ok (.astore_n 2, 1) by decide +kernel) rfl hl (by decide) rfl (fun ls hl => ?_)
  have hM := hmain (L : Int) xs (by omega) (by omega) (am_P l (L : Int) b base D cA xs) am_P_step am_P_forget
  have hrel : am_rel (L : Int) b base D cA xs (ao_σ (L : Int) xs) H := by
    refine ⟨hR _ _, fun a i => ?_, fun j hj => ?_⟩
    · have key : in32 (ao_σ (L : Int) xs a i) := by
        unfold ao_σ ao_σp
        split
        · split
          · exact in32_of _
          · exact in32_0
        · split
          · split
            · exact ⟨by omega, by omega⟩
            · exact in32_0
          · exact in32_0
      split
      · exact in32_64 key
      · exact key
    · unfold ao_σ ao_σp
      rw [if_pos rfl, if_pos (by omega)]
      rfl
  refine hM p e room_1 s m #[Value.ref b] below meth c H s.heap locs _ _ (lw_Z below #[Value.ref b] s) ls ⟨hx, hb, hml, hown, hts, hN, hK, by simpa using hX, hbase, by omega, Nat.le_of_ble_eq_true rfl, Nat.le_of_ble_eq_true rfl, by omega, by omega⟩ hrel hS (Nat.le_of_ble_eq_true rfl) (Nat.le_of_ble_eq_true rfl) ⟨rfl, lv_sub hl [2, 1, 0] rfl⟩ ?_ (fun v hv => by cases hv) ?_
  · intro v hv
    simp only [List.mem_cons, List.not_mem_nil, or_false] at hv
    rcases hv with rfl | rfl | rfl | rfl <;> trivial
  · intro v σ' H' locs' pc' ls' hq hrel' hS' hd
    subst hq
    refine va_forget (fun q hq => by have := hS'.2.2 q hq; rw [← hbs]; exact this) ?_
    refine W.widen (k := 600000) (n := 7302250) (Nat.le_of_ble_eq_true rfl) (Nat.le_of_ble_eq_true rfl) ?_
    exact lw_ret hx hb hr hlocks hd.1
