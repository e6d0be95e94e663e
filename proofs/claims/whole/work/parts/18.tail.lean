set_option maxHeartbeats 40000000 in
/-- the last constructor's loop: no purse has another way -/
theorem ao_tail {p : Program} {l : Launch} {e : Env} {R : Room} {s : State} {m : MethodId} {args : Array Value} {below : List Frame} {meth : Method} {c : Code} {H : Heap} {locs : List Loc} {cells slots : Nat} {ls : Array Slot} {b base : Nat} {D : va_G} {cA : Nat → ClassId}
    (hx : p.tables.exec = Jvm.exec) (hb : c.code = prog_14_method_1_code) (hr : meth.sig.returnType = none) (hown : s.vm.findClass RX12 = some m.cls) (hts : ∀ w ∈ am_gt, w.before args s = true) (hK : va_K D am_cls (am_tys cA) s) (hR : ao_rel b base D cA (ao_SS 147) 138 H) (hS : va_S (fun q => base ≤ q) s.heap H locs)
    (hl : lv_has ls 2 [(0, .ref (base + 81))]) (hlocks : meth.locks = false) (hc : cells ≤ 56) (hs : slots ≤ 42082) : W p l e R s m args below meth c H locs cells slots (MQ below (ao_Qm b base D cA) args s 56 42082 (fun q => base ≤ q)) (F0 m 468 ls []) := by
  have loop : ∀ (n p' : Nat), p' + n = 10 → ∀ (H : Heap) (locs : List Loc) (ls : Array Slot), va_P D am_cls (am_ws 0 b base cA (ao_σp p' 0 (fun _ => 0))) H → va_S (fun q => base ≤ q) s.heap H locs → lv_has ls 2 [(1, .int (Int32.ofInt p')), (0, .ref (base + 81))] →
      W p l e R s m args below meth c H locs 56 42082 (MQ below (ao_Qm b base D cA) args s 56 42082 (fun q => base ≤ q)) (F0 m 470 ls []) := by
    intro n
    induction n with
    | zero =>
      intro p' hp H locs ls hP hS hl
      have hp : p' = 10 := by omega
      subst hp
      refine lv_iload_n hx hb (show decode prog_14_method_1_code 470 = .ok (.iload_n 1, 1) by decide +kernel) rfl (lv_at hl 0 rfl) ?_
      refine lv_bipush (v := Int32.ofInt 10) hx hb (show decode prog_14_method_1_code 471 = .ok (.bipush 10, 2) by decide +kernel) (by decide) ?_
      refine lv_icmp_ge (tgt := 489) hx hb (show decode prog_14_method_1_code 473 = .ok (.if_icmp .ge 16, 3) by decide +kernel) (by decide) (fun q => ?_) (fun q => absurd (by decide) q)
      exact W.vret hx hb hr (fun t ht hW => ⟨rfl, fun Ln xs => by rw [ht]; unfold ao_σ; rw [ao_ws_all (Ln' := 0) (xs' := fun _ => 0)]; exact hP, hS.F ht⟩) hS.2.2 (show decode prog_14_method_1_code 489 = .ok (.return_, 1) by decide +kernel)
    | succ n ih =>
      intro p' hp H locs ls hP hS hl
      have hi32 : in32 (p' : Int) := ⟨by omega, by omega⟩
      refine lv_iload_n hx hb (show decode prog_14_method_1_code 470 = .ok (.iload_n 1, 1) by decide +kernel) rfl (lv_at hl 0 rfl) ?_
      refine lv_bipush (v := Int32.ofInt 10) hx hb (show decode prog_14_method_1_code 471 = .ok (.bipush 10, 2) by decide +kernel) (by decide) ?_
      refine lv_icmp_ge (tgt := 489) hx hb (show decode prog_14_method_1_code 473 = .ok (.if_icmp .ge 16, 3) by decide +kernel) (by decide) (fun q => absurd ((le_i32 (x := 10) ⟨by omega, by omega⟩ hi32).mp q) (by omega)) (fun q => ?_)
      refine lv_aload_n hx hb (show decode prog_14_method_1_code 476 = .ok (.aload_n 0, 1) by decide +kernel) rfl (lv_at hl 1 rfl) ?_
      have hk82 : am_kd 0 (81 + 1) = (0, 0, 12) := by decide +kernel
      have hk121 : am_kd 0 (120 + 1) = (1, 10, 0) := by decide +kernel
      have he := am_ws_get (Ln := 0) (b := b) (base := base) (cA := cA) (σ := ao_σp p' 0 (fun _ => 0)) (k := 81) (by decide)
      have hcell : am_cell 0 (am_ad b base) cA (ao_σp p' 0 (fun _ => 0)) (81 + 1) = .inr (12, am_fv (am_ad b base) (ao_σp p' 0 (fun _ => 0)) (81 + 1) 0 (am_ftL.getD 12 [])) := by unfold am_cell; rw [hk82] <;> rfl
      rw [hcell] at he
      have hv : (am_fv (am_ad b base) (ao_σp p' 0 (fun _ => 0)) (81 + 1) 0 (am_ftL.getD 12 []))[58]? = some (.ref (base + 120)) := by
        rw [am_fv_get, show (am_ftL.getD 12 [])[58]? = some 2 by decide +kernel]
        show some (Value.ref (am_ad b base (am_ref (81 + 1) (0 + 58)))) = _
        rw [show am_ref (81 + 1) (0 + 58) = 120 + 1 by decide +kernel]
        rfl
      refine va_get (D := D) (ci := 12) (C := RX12) (T := TX12) (N := 82) hx hb hts (am_uw_in am_uw12 am_ug12) hown hK hP 81 he rfl 58 (by decide) (hts (.fieldLink RX12 126 RX12 "other" "[I") (am_gt_in (i := 1276) (by decide +kernel) (by decide +kernel))) (fun z hz => hz) hv (show decode prog_14_method_1_code 477 = .ok (.getfield 126, 3) by decide +kernel) ?_
      refine lv_iload_n hx hb (show decode prog_14_method_1_code 480 = .ok (.iload_n 1, 1) by decide +kernel) rfl (lv_at hl 0 rfl) ?_
      refine lv_iconst (v := Int32.ofInt (-1)) hx hb (show decode prog_14_method_1_code 481 = .ok (.iconst (-1), 1) by decide +kernel) (by decide) ?_
      have he2 := am_ws_get (Ln := 0) (b := b) (base := base) (cA := cA) (σ := ao_σp p' 0 (fun _ => 0)) (k := 120) (by decide)
      have hcell2 : ∀ σ : AS, am_cell 0 (am_ad b base) cA σ (120 + 1) = .inl (cA 1, 10, .inl (fun j => Int32.ofInt (σ 121 j))) := by intro σ; unfold am_cell; rw [hk121] <;> rfl
      rw [hcell2] at he2
      refine va_iast (D := D) hx hb hK hP am_ws_D hS 120 0 he2 rfl (vpin_i (by omega) (by omega) hi32) (show decode prog_14_method_1_code 482 = .ok (.iastore, 1) by decide +kernel) (fun H1 locs1 hP1 hD1 hS1 => ?_)
      refine lv_iinc (v := Int32.ofInt ((p' + 1 : Nat) : Int)) (lv' := [(1, .int (Int32.ofInt ((p' + 1 : Nat) : Int))), (0, .ref (base + 81))]) hx hb (show decode prog_14_method_1_code 483 = .ok (.iinc 1 1, 3) by decide +kernel) hl (k := 0) rfl (by rw [← Int32.ofInt_add]; rfl) (by decide) rfl (fun ls hl => ?_)
      refine lv_goto (tgt := 470) hx hb (show decode prog_14_method_1_code 486 = .ok (.goto (-16), 3) by decide +kernel) (by decide) ?_
      refine ih (p' + 1) (by omega) H1 locs1 ls ?_ hS1 hl
      have hσ : ao_σp ((p' + 1 : Nat) : Int) 0 (fun _ => 0) = am_up (ao_σp p' 0 (fun _ => 0)) 121 p' (-1) := by
        funext c i
        by_cases hc : c = 121
        · subst hc
          rw [am_up_eq]
          unfold ao_σp
          simp only [if_neg (show ¬ 121 = 0 by omega), if_true]
          by_cases h1 : i = (p' : Int)
          · rw [if_pos (by omega), if_pos h1]
          · rw [if_neg h1]
            by_cases h2 : 0 ≤ i ∧ i < (p' : Int)
            · rw [if_pos h2, if_pos (by omega)]
            · rw [if_neg h2, if_neg (by omega)]
        · rw [am_up_ne hc]
          unfold ao_σp
          simp only [if_neg hc]
      rw [hσ, am_ws_set (k := 120) (σ := ao_σp p' 0 (fun _ => 0)) (fun a ha => am_up_ne ha), hcell2, am_upd_i (by omega) hi32]
      exact hP1
  refine W.widen hc hs ?_
  refine lv_iconst (v := Int32.ofInt 0) hx hb (show decode prog_14_method_1_code 468 = .ok (.iconst 0, 1) by decide +kernel) (by decide) ?_
  refine lv_istore_n (lv' := [(1, .int (Int32.ofInt 0)), (0, .ref (base + 81))]) hx hb (show decode prog_14_method_1_code 469 = .ok (.istore_n 1, 1) by decide +kernel) rfl hl (by decide) rfl (fun ls hl => ?_)
  exact loop 10 0 rfl H locs ls (by show va_P D am_cls (am_ws 0 b base cA (ao_σp 0 0 (fun _ => 0))) H; rw [ao_ws_eq]; exact hR.1) hS hl
