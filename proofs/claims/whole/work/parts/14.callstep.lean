/-! a call, as a step -/
theorem am_goodIn {ws : List Cond} (h : ∀ w ∈ ws, w ∈ am_gt) : GoodIn am_gt ws := fun w hw => ⟨h w hw, good_of_word (List.mem_filter.mp (h w hw)).2⟩
theorem am_rest_in {st st' : List AV} {y : Nat} (hst : ∀ w ∈ st, am_in w) (hv : ∀ w ∈ st', w ∈ st.drop y ∨ am_in w) : ∀ w ∈ st', am_in w := fun w hw => (hv w hw).elim (fun q => hst w (List.mem_of_mem_drop q)) id
theorem am_kont_go {ad : Nat → Nat} {x pc : Nat} {v : Option AV} {σ' : AS} {T : Option AV → AS → Prop} {K : Nat → List AV → List AV → AS → Prop} {al rest : List AV} {G : Prop} (hsh : am_shape x v) (hk : am_kont (am_mt x).2.2 T K pc al rest) (hT : T v σ')
    (cont : ∀ st', K pc al st' σ' → (∀ w ∈ st', w ∈ rest ∨ am_in w) → st'.map (am_c ad) = am_top ad v ++ rest.map (am_c ad) → G) : G := by
  match v, hsh, hT with
  | none, hsh, hT =>
    have hsh : (am_mt x).2.2 = 0 := hsh
    rw [hsh] at hk
    exact cont rest (hk σ' hT) (fun w hw => Or.inl hw) rfl
  | some (.inl u), hsh, hT =>
    have key : K pc al (vI u :: rest) σ' := by
      rcases hsh.1 with q | q
      · rw [q] at hk; exact hk u σ' hT
      · rw [q.1] at hk; exact hk u σ' hT
    refine cont (vI u :: rest) key (fun w hw => ?_) rfl
    rcases List.mem_cons.mp hw with rfl | q
    · exact Or.inr hsh.2
    · exact Or.inl q
  | some (.inr (.inl u)), hsh, hT =>
    have h3 : (am_mt x).2.2 = 3 := hsh.1
    rw [h3] at hk
    refine cont (vL u :: rest) (hk u σ' hT) (fun w hw => ?_) rfl
    rcases List.mem_cons.mp hw with rfl | q
    · exact Or.inr hsh.2
    · exact Or.inl q
  | some (.inr (.inr _)), hsh, _ => exact hsh.elim
/-- what the tables say of a method that is called -/
theorem am_okm_facts {x : Nat} (h1 : 0 < x) (h2 : x < 246) : lw_tbl[(am_mw x).1]? = some (Jvm.Cond.code (am_my x).1 (am_my x).2 (am_mt x).1 (am_rty (am_mt x).2.2)) ∧ lw_tbl[(am_mw x).2.2.2.1]? = some (Jvm.Cond.initialized (am_my x).1.cls) ∧
    ((am_my x).1.cls ≠ "java/lang/invoke/MethodHandle" ∧ (am_my x).1.cls ≠ "java/lang/invoke/VarHandle") ∧ (am_mt x).1 ≤ 21 ∧
    ((am_mw x).2.2.2.2 = 0 → lw_tbl[(am_mw x).2.1]? = some (Jvm.Cond.instanceMethod (am_my x).1) ∧ lw_tbl[(am_mw x).2.2.1]? = some (Jvm.Cond.selects (am_my x).1.cls (am_my x).1 (am_my x).1) ∧ (parseMethodDescriptor (am_my x).1.desc).map (fun d => d.parameters.length + 1) = some (am_mt x).2.1) ∧
    ((am_mw x).2.2.2.2 = 1 → lw_tbl[(am_mw x).2.1]? = some (Jvm.Cond.static (am_my x).1) ∧ (parseMethodDescriptor (am_my x).1.desc).map (fun d => d.parameters.length) = some (am_mt x).2.1) := by
  have h := am_ok_m h1 h2
  unfold am_okm at h
  generalize am_my x = a at h ⊢
  generalize am_mt x = b at h ⊢
  generalize am_mw x = c at h ⊢
  obtain ⟨y, bs⟩ := a
  obtain ⟨ml, na, rt⟩ := b
  obtain ⟨p1, p2, p3, p4, t⟩ := c
  simp only [Bool.and_eq_true, decide_eq_true_eq] at h
  obtain ⟨⟨⟨⟨⟨q1, q2⟩, q3⟩, q4⟩, q5⟩, q6⟩ := h
  refine ⟨q1, q2, q3, Nat.ble_eq.mp q4, fun e => ?_, fun e => ?_⟩
  · have e : t = 0 := e
    subst e
    simp only [Bool.and_eq_true, decide_eq_true_eq] at q6
    exact ⟨q6.1.1, q6.1.2, q6.2⟩
  · have e : t = 1 := e
    subst e
    simp only [Bool.and_eq_true, decide_eq_true_eq] at q6
    exact q6
section ST
variable {l : Launch} {Ln : Int} {b base : Nat} {D : va_G} {cA : Nat → ClassId} {xs : Nat → Int32} {d m : Nat} {p : Program} {e : Env} {R : Room} {s : State} {mid : MethodId} {args : Array Value} {below : List Frame} {meth : Method} {c : Code} {H H0 : Heap} {locs : List Loc} {cells slots : Nat} {Qf : State → Prop}
variable {ls : Array Slot} {al st : List AV} {σ : AS} {pc i w x y : Nat} {cc : Int} {T : Option AV → AS → Prop}
theorem am_callV_step (hC : am_ctx Ln b base D cA xs d m p R s mid args c H0) (hR : am_rel Ln b base D cA xs σ H) (hS : va_S (fun q => base ≤ q) H0 H locs) (hcc : cells ≤ R.cells) (hss : slots ≤ R.slots) (hl : am_loc (am_ad b base) ls (am_mt m).1 al) (hst : ∀ v ∈ st, am_in v)
    (hdg : decode (am_my m).2 pc = .ok (.invokevirtual i, 3)) (hlink : lw_tbl[w]? = some (Jvm.Cond.methodLink (am_my m).1.cls i (am_my x).1)) (h1 : 0 < x) (h2 : x < 246) (hstat : (am_mw x).2.2.2.2 = 0) (hny : y = (am_mt x).2.1) (hcls : (am_cls[cc.toNat]?).map (fun q => q.1) = some (am_my x).1.cls)
    (hn : y ≤ st.length) (hr4 : (st.drop y).length ≤ 4) (hexp : (am_exp (st.take y).reverse).length ≤ (am_mt x).1) (hrcv : am_rcv Ln true cc (st.take y).reverse = true) (hcall : am_cl (am_P l Ln b base D cA xs) d x (st.take y).reverse σ T)
    (kk : ∀ v σ' H1 locs1, T v σ' → am_rel Ln b base D cA xs σ' H1 → am_shape x v → va_S (fun q => base ≤ q) H0 H1 locs1 → W p l e R s mid args below meth c H1 locs1 cells slots Qf (F0 mid (pc + 3) ls (am_top (am_ad b base) v ++ (st.drop y).map (am_c (am_ad b base))))) :
    W p l e R s mid args below meth c H locs cells slots Qf (F0 mid pc ls (st.map (am_c (am_ad b base)))) := by
  obtain ⟨hx, hb, hml, hown, hts, hN, hK, hX, hbb, hbase, hfr, hlo, h0, h4⟩ := id hC
  obtain ⟨f1, f2, f3, f4, f5, -⟩ := am_okm_facts h1 h2
  obtain ⟨f5, f6, f7⟩ := f5 hstat
  have hlen : (st.take y).reverse.length = y := by rw [List.length_reverse, List.length_take]; omega
  have hst2 : st = ((st.take y).reverse).reverse ++ st.drop y := by rw [List.reverse_reverse, List.take_append_drop]
  have hin2 : ∀ v ∈ (st.take y).reverse, am_in v := fun v hv => hst v (List.mem_of_mem_take (List.mem_reverse.mp hv))
  generalize (st.take y).reverse = as at *
  generalize st.drop y = rest at *
  cases d with
  | zero => exact hcall.elim
  | succ d =>
    unfold am_rcv at hrcv
    simp only at hrcv
    split at hrcv
    · rename_i a as' 
      split at hrcv
      · rename_i n0 k hkd
        have ek := Nat.eq_of_beq_eq_true hrcv
        obtain ⟨ka, rfl, hka⟩ := am_kd_cell hkd (by decide) (by decide)
        have hcell : am_cell Ln (am_ad b base) cA σ (ka + 1) = .inr (k, am_fv (am_ad b base) σ (ka + 1) 0 (am_ftL.getD k [])) := by unfold am_cell; rw [hkd] <;> rfl
        have he := am_ws_get (Ln := Ln) (b := b) (base := base) (cA := cA) (σ := σ) hka
        rw [hcell] at he
        have hMet := am_met (l := l) h1 h2 hcall hin2 hexp hR hbb (Nat.le_trans hbase hS.1) h0 h4
        rw [← ek] at hcls
        cases hq : am_cls[k]? with
        | none => rw [hq] at hcls; cases hcls
        | some q =>
          rw [hq] at hcls
          have hq1 : q.1 = (am_my x).1.cls := Option.some.inj hcls
          have hrec := va_recv hK hR.1 hq he
          rw [hq1] at hrec
          have hpar : (parseMethodDescriptor (am_my x).1.desc).map (fun d => d.parameters.length) = some as'.length := by
            cases hp : parseMethodDescriptor (am_my x).1.desc with
            | none => rw [hp] at f7; cases f7
            | some sg =>
              rw [hp] at f7
              have f8 : sg.parameters.length + 1 = (am_mt x).2.1 := Option.some.inj f7
              have f9 : as'.length + 1 = y := by simpa using hlen
              have f10 : sg.parameters.length = as'.length := by omega
              exact congrArg some f10
          have hgood : GoodIn am_gt (wsV (am_my m).1.cls i (am_my x).1.cls (am_my x).1 (am_wd x)) := by
            refine am_goodIn fun w' hw => ?_
            unfold wsV at hw
            rcases List.mem_append.mp hw with hw | hw
            · simp only [List.mem_cons, List.not_mem_nil, or_false] at hw
              rcases hw with rfl | rfl | rfl | rfl
              · exact am_gt_in hlink rfl
              · exact am_gt_in f5 rfl
              · exact am_gt_in f6 rfl
              · exact am_gt_in f2 rfl
            · rcases List.mem_cons.mp hw with rfl | hw
              · exact am_gt_in f1 rfl
              · exact hw
          have hXH : va_X b Ln.toNat xs s H := hX.kept (hS.2.1 b (Nat.lt_of_lt_of_le hbb hbase) (Nat.not_le.mpr hbb))
          refine am_callW (rest := rest.map (am_c (am_ad b base))) (va_runV (As := as'.map (am_c (am_ad b base))) (rest := rest.map (am_c (am_ad b base))) ⟨hx, hb, hml, hown, hts⟩ hMet (cwV as'.length hts hgood rfl rfl rfl ⟨rfl, f3.1, f3.2, hpar⟩ ⟨hfr, by show 8 + ((am_mt x).1 + 11) + 40 * (d + 1) ≤ R.locals; omega⟩)
            ⟨am_Pc_blind, hrec, fun U hU hW => ⟨rfl, hU, va_K.moved hW.alike hK, am_nest_warm hW hN, hXH.moved hW.alike⟩⟩ rfl (by simp) hl.2.1 ?_ (lv_room (am_cats hr4)) hdg ⟨hcc, hss⟩) hS kk
          show st.map (am_c (am_ad b base)) = _
          rw [hst2]
          simp [am_c, am_ad]
      · cases hrcv
    · cases hrcv
theorem am_callS_step (hC : am_ctx Ln b base D cA xs d m p R s mid args c H0) (hR : am_rel Ln b base D cA xs σ H) (hS : va_S (fun q => base ≤ q) H0 H locs) (hcc : cells ≤ R.cells) (hss : slots ≤ R.slots) (hl : am_loc (am_ad b base) ls (am_mt m).1 al) (hst : ∀ v ∈ st, am_in v)
    (hdg : decode (am_my m).2 pc = .ok (.invokestatic i, 3)) (hlink : lw_tbl[w]? = some (Jvm.Cond.methodLink (am_my m).1.cls i (am_my x).1)) (h1 : 0 < x) (h2 : x < 246) (hstat : (am_mw x).2.2.2.2 = 1) (hny : y = (am_mt x).2.1)
    (hn : y ≤ st.length) (hr4 : (st.drop y).length ≤ 4) (hexp : (am_exp (st.take y).reverse).length ≤ (am_mt x).1) (hcall : am_cl (am_P l Ln b base D cA xs) d x (st.take y).reverse σ T)
    (kk : ∀ v σ' H1 locs1, T v σ' → am_rel Ln b base D cA xs σ' H1 → am_shape x v → va_S (fun q => base ≤ q) H0 H1 locs1 → W p l e R s mid args below meth c H1 locs1 cells slots Qf (F0 mid (pc + 3) ls (am_top (am_ad b base) v ++ (st.drop y).map (am_c (am_ad b base))))) :
    W p l e R s mid args below meth c H locs cells slots Qf (F0 mid pc ls (st.map (am_c (am_ad b base)))) := by
  obtain ⟨hx, hb, hml, hown, hts, hN, hK, hX, hbb, hbase, hfr, hlo, h0, h4⟩ := id hC
  obtain ⟨f1, f2, f3, f4, -, f5⟩ := am_okm_facts h1 h2
  obtain ⟨f5, f7⟩ := f5 hstat
  have hlen : (st.take y).reverse.length = y := by rw [List.length_reverse, List.length_take]; omega
  have hst2 : st = ((st.take y).reverse).reverse ++ st.drop y := by rw [List.reverse_reverse, List.take_append_drop]
  have hin2 : ∀ v ∈ (st.take y).reverse, am_in v := fun v hv => hst v (List.mem_of_mem_take (List.mem_reverse.mp hv))
  generalize (st.take y).reverse = as at *
  generalize st.drop y = rest at *
  cases d with
  | zero => exact hcall.elim
  | succ d =>
    have hMet := am_met (l := l) h1 h2 hcall hin2 hexp hR hbb (Nat.le_trans hbase hS.1) h0 h4
    have hgood : GoodIn am_gt (am_wd x) := am_goodIn fun w' hw => by
      rcases List.mem_cons.mp hw with rfl | hw
      · exact am_gt_in f1 rfl
      · exact hw
    have hXH : va_X b Ln.toNat xs s H := hX.kept (hS.2.1 b (Nat.lt_of_lt_of_le hbb hbase) (Nat.not_le.mpr hbb))
    refine am_callW (rest := rest.map (am_c (am_ad b base))) (va_runS (As := as.map (am_c (am_ad b base))) (rest := rest.map (am_c (am_ad b base))) (n := as.length) ⟨hx, hb, hml, hown, hts⟩ hMet ⟨callB_of as.length hts hgood rfl rfl rfl (hts _ (am_gt_in f2 rfl)) (hts _ (am_gt_in hlink rfl)) ⟨f3.1, f3.2, by rw [f7, ← hny, hlen]⟩ ⟨hfr, by show 8 + ((am_mt x).1 + 11) + 40 * (d + 1) ≤ R.locals; omega⟩, hts _ (am_gt_in f5 rfl)⟩
      ⟨am_Pc_blind, fun U hU hW => ⟨rfl, hU, va_K.moved hW.alike hK, am_nest_warm hW hN, hXH.moved hW.alike⟩⟩ rfl (by simp) hl.2.1 ?_ (lv_room (am_cats hr4)) hdg ⟨hcc, hss⟩) hS kk
    show st.map (am_c (am_ad b base)) = _
    rw [hst2]
    simp
theorem am_callN_step (hC : am_ctx Ln b base D cA xs d m p R s mid args c H0) (hR : am_rel Ln b base D cA xs σ H) (hS : va_S (fun q => base ≤ q) H0 H locs) (hcc : cells ≤ R.cells) (hss : slots ≤ R.slots) (hl : am_loc (am_ad b base) ls (am_mt m).1 al) (hst : ∀ v ∈ st, am_in v)
    (hdg : decode (am_my m).2 pc = .ok (.invokestatic i, 3)) (hlink : lw_tbl[w]? = some (Jvm.Cond.methodLinkNest (am_my m).1.cls i (am_my x).1 "PurseTrace")) (h1 : 0 < x) (h2 : x < 246) (hstat : (am_mw x).2.2.2.2 = 1) (hny : y = (am_mt x).2.1)
    (hn : y ≤ st.length) (hr4 : (st.drop y).length ≤ 4) (hexp : (am_exp (st.take y).reverse).length ≤ (am_mt x).1) (hcall : am_cl (am_P l Ln b base D cA xs) d x (st.take y).reverse σ T)
    (kk : ∀ v σ' H1 locs1, T v σ' → am_rel Ln b base D cA xs σ' H1 → am_shape x v → va_S (fun q => base ≤ q) H0 H1 locs1 → W p l e R s mid args below meth c H1 locs1 cells slots Qf (F0 mid (pc + 3) ls (am_top (am_ad b base) v ++ (st.drop y).map (am_c (am_ad b base))))) :
    W p l e R s mid args below meth c H locs cells slots Qf (F0 mid pc ls (st.map (am_c (am_ad b base)))) := by
  obtain ⟨hx, hb, hml, hown, hts, hN, hK, hX, hbb, hbase, hfr, hlo, h0, h4⟩ := id hC
  obtain ⟨f1, f2, f3, f4, -, f5⟩ := am_okm_facts h1 h2
  obtain ⟨f5, f7⟩ := f5 hstat
  have hlen : (st.take y).reverse.length = y := by rw [List.length_reverse, List.length_take]; omega
  have hst2 : st = ((st.take y).reverse).reverse ++ st.drop y := by rw [List.reverse_reverse, List.take_append_drop]
  have hin2 : ∀ v ∈ (st.take y).reverse, am_in v := fun v hv => hst v (List.mem_of_mem_take (List.mem_reverse.mp hv))
  generalize (st.take y).reverse = as at *
  generalize st.drop y = rest at *
  cases d with
  | zero => exact hcall.elim
  | succ d =>
    have hMet := am_met (l := l) h1 h2 hcall hin2 hexp hR hbb (Nat.le_trans hbase hS.1) h0 h4
    have hgood : GoodIn am_gt (am_wd x) := am_goodIn fun w' hw => by
      rcases List.mem_cons.mp hw with rfl | hw
      · exact am_gt_in f1 rfl
      · exact hw
    have hXH : va_X b Ln.toNat xs s H := hX.kept (hS.2.1 b (Nat.lt_of_lt_of_le hbb hbase) (Nat.not_le.mpr hbb))
    refine am_callW (rest := rest.map (am_c (am_ad b base))) (va_runSN (As := as.map (am_c (am_ad b base))) (rest := rest.map (am_c (am_ad b base))) (n := as.length) ⟨hx, hb, hml, hown, hts⟩ hMet ⟨va_cnB as.length hts hgood rfl rfl rfl (hN _ _ _ _ (List.mem_of_getElem? hlink)) (hts _ (am_gt_in f2 rfl)) ⟨f3.1, f3.2, by rw [f7, ← hny, hlen]⟩ ⟨hfr, by show 8 + ((am_mt x).1 + 11) + 40 * (d + 1) ≤ R.locals; omega⟩, hts _ (am_gt_in f5 rfl), trivial⟩
      ⟨am_Pc_blind, fun U hU hW => ⟨rfl, hU, va_K.moved hW.alike hK, am_nest_warm hW hN, hXH.moved hW.alike⟩⟩ rfl (by simp) hl.2.1 ?_ (lv_room (am_cats hr4)) hdg ⟨hcc, hss⟩) hS kk
    show st.map (am_c (am_ad b base)) = _
    rw [hst2]
    simp
end ST
