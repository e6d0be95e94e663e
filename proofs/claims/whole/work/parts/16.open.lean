/-! the constructors: worlds of the first n cells, of whose references some are set -/
noncomputable def ao_e (ad : Nat → Nat) (S : List (Nat × Nat)) (a k t : Nat) : Value := match t with
  | 2 => if (a, k) ∈ S then Value.ref (ad (am_ref a k)) else .null
  | _ => .int 0
noncomputable def ao_f (ad : Nat → Nat) (S : List (Nat × Nat)) (a : Nat) : Nat → List Nat → List Value
  | _, [] => []
  | k, t :: r => ao_e ad S a k t :: ao_f ad S a (k + 1) r
theorem ao_f_get {ad : Nat → Nat} {S : List (Nat × Nat)} {a : Nat} : ∀ (l : List Nat) (k j : Nat), (ao_f ad S a k l)[j]? = (l[j]?).map (fun t => ao_e ad S a (k + j) t)
  | [], k, j => by simp [ao_f]
  | t :: r, k, 0 => by simp [ao_f]
  | t :: r, k, j + 1 => by
    rw [ao_f, List.getElem?_cons_succ, ao_f_get r (k + 1) j, List.getElem?_cons_succ, show k + 1 + j = k + (j + 1) by omega]
theorem ao_f_len {ad : Nat → Nat} {S : List (Nat × Nat)} {a : Nat} : ∀ (l : List Nat) (k : Nat), (ao_f ad S a k l).length = l.length
  | [], k => rfl
  | t :: r, k => by rw [ao_f, List.length_cons, ao_f_len r (k + 1), List.length_cons]
noncomputable def ao_cell (ad : Nat → Nat) (cA : Nat → ClassId) (S : List (Nat × Nat)) (a : Nat) : va_E := match am_kd 0 a with
  | (0, _, ci) => .inr (ci, ao_f ad S a 0 (am_ftL.getD ci []))
  | (2, n, _) => .inl (cA 2, n.toNat, .inr (.inl (fun _ => 0)))
  | (t, n, _) => .inl (cA t, n.toNat, .inl (fun _ => 0))
noncomputable def ao_ws (b base : Nat) (cA : Nat → ClassId) (S : List (Nat × Nat)) (n : Nat) : va_W := (List.range n).map (fun k => (base + k, ao_cell (am_ad b base) cA S (k + 1)))
noncomputable def ao_rel (b base : Nat) (D : va_G) (cA : Nat → ClassId) (S : List (Nat × Nat)) (n : Nat) (H : Heap) : Prop := va_P D am_cls (ao_ws b base cA S n) H ∧ H.size = base + n
theorem ao_ws_get {b base : Nat} {cA : Nat → ClassId} {S : List (Nat × Nat)} {n k : Nat} (h : k < n) : (ao_ws b base cA S n)[k]? = some (base + k, ao_cell (am_ad b base) cA S (k + 1)) := by
  unfold ao_ws
  rw [List.getElem?_map, List.getElem?_range h]
  rfl
theorem ao_ws_out {b base : Nat} {cA : Nat → ClassId} {S : List (Nat × Nat)} {n k : Nat} {q : Nat × va_E} (h : (ao_ws b base cA S n)[k]? = some q) : k < n := by
  have := (List.getElem?_eq_some_iff.mp h).1
  simpa [ao_ws] using this
theorem ao_ws_D {b base : Nat} {cA : Nat → ClassId} {S : List (Nat × Nat)} {n : Nat} : va_D (fun q => base ≤ q) (ao_ws b base cA S n) := by
  have key : ∀ (k : Nat) (q : Nat × va_E), (ao_ws b base cA S n)[k]? = some q → q.1 = base + k := by
    intro k q h
    rw [ao_ws_get (ao_ws_out h)] at h
    rw [← Option.some.inj h]
  refine ⟨fun i j p q hi hj e => ?_, fun k q h => ?_⟩
  · have h1 := key i p hi
    have h2 := key j q hj
    omega
  · have h1 := key k q h
    show base ≤ q.1
    omega
theorem ao_push {b base : Nat} {D : va_G} {cA : Nat → ClassId} {S : List (Nat × Nat)} {n : Nat} {H H1 : Heap} (h : ao_rel b base D cA S n H) (hz : H1.size = base + n + 1) (ho : ∀ q, q < base + n → H1[q]? = H[q]?) (hn : va_at D am_cls (base + n, ao_cell (am_ad b base) cA S (n + 1)) H1) : ao_rel b base D cA S (n + 1) H1 := by
  refine ⟨fun k q hq => ?_, by omega⟩
  have hk := ao_ws_out hq
  rw [ao_ws_get hk] at hq
  cases hq
  rcases Nat.lt_or_ge k n with g | g
  · exact (h.1 k _ (ao_ws_get g)).kept (ho _ (by show base + k < base + n; omega))
  · rw [show k = n by omega]
    exact hn
theorem ao_setS {b base : Nat} {cA : Nat → ClassId} {S : List (Nat × Nat)} {n j k ci : Nat} (hkd : am_kd 0 (j + 1) = (0, 0, ci)) (hj : j < n) (hft : am_ft ci k = 2) :
    ao_ws b base cA ((j + 1, k) :: S) n = (ao_ws b base cA S n).set j (base + j, .inr (ci, (ao_f (am_ad b base) S (j + 1) 0 (am_ftL.getD ci [])).set k (.ref (am_ad b base (am_ref (j + 1) k))))) := by
  have hat := am_ft_at hft (by decide)
  have hkl := (List.getElem?_eq_some_iff.mp hat).1
  have e1 : ∀ (l : List Nat) (a i : Nat), a ≠ j + 1 → ao_f (am_ad b base) ((j + 1, k) :: S) a i l = ao_f (am_ad b base) S a i l := by
    intro l
    induction l with
    | nil => intro a i _; rfl
    | cons t r ih =>
      intro a i ha
      rw [ao_f, ao_f, ih a (i + 1) ha]
      congr 1
      unfold ao_e
      split
      · have : ((a, i) ∈ (j + 1, k) :: S) ↔ (a, i) ∈ S := by
          rw [List.mem_cons]
          constructor
          · rintro (q | q)
            · cases q; exact absurd rfl ha
            · exact q
          · exact Or.inr
        simp only [this]
      · rfl
  apply List.ext_getElem?
  intro i
  by_cases hi : i < n
  · by_cases e : j = i
    · subst e
      rw [ao_ws_get hi, List.getElem?_set_self (by unfold ao_ws; simpa using hi)]
      have : ao_cell (am_ad b base) cA ((j + 1, k) :: S) (j + 1) = .inr (ci, ao_f (am_ad b base) ((j + 1, k) :: S) (j + 1) 0 (am_ftL.getD ci [])) := by unfold ao_cell; rw [hkd] <;> rfl
      rw [this]
      have e2 : ao_f (am_ad b base) ((j + 1, k) :: S) (j + 1) 0 (am_ftL.getD ci []) = (ao_f (am_ad b base) S (j + 1) 0 (am_ftL.getD ci [])).set k (.ref (am_ad b base (am_ref (j + 1) k))) := by
        apply List.ext_getElem?
        intro x
        rw [ao_f_get, List.getElem?_set]
        by_cases ex : k = x
        · subst ex
          rw [if_pos rfl, if_pos (by rw [ao_f_len]; exact hkl), hat]
          simp [ao_e]
        · rw [if_neg ex, ao_f_get]
          congr 1
          funext t
          unfold ao_e
          split
          · have : ((j + 1, 0 + x) ∈ (j + 1, k) :: S) ↔ (j + 1, 0 + x) ∈ S := by
              rw [List.mem_cons]
              constructor
              · rintro (q | q)
                · have := congrArg Prod.snd q
                  simp at this
                  exact absurd this.symm ex
                · exact q
              · exact Or.inr
            simp only [this]
          · rfl
      rw [e2]
    · rw [ao_ws_get hi, List.getElem?_set_ne e, ao_ws_get hi]
      congr 2
      unfold ao_cell
      split
      · rw [e1 _ _ _ (by omega)]
      · rfl
      · rfl
  · have h1 : (ao_ws b base cA ((j + 1, k) :: S) n).length ≤ i := by unfold ao_ws; simp; omega
    rw [List.getElem?_eq_none h1, List.getElem?_eq_none (by rw [List.length_set]; unfold ao_ws; simp; omega)]
section AO
variable {p : Program} {l : Launch} {e : Env} {R : Room} {s : State} {mid : MethodId} {args : Array Value} {below : List Frame} {meth : Method} {c : Code} {H H0 : Heap} {locs : List Loc} {cells slots : Nat} {Qf : State → Prop}
variable {cc : ByteArray} {pc : Nat} {ls : Array Slot} {st : List Value} {b base : Nat} {D : va_G} {cA : Nat → ClassId} {S : List (Nat × Nat)} {n : Nat} {own : String}
theorem ao_new (hx : p.tables.exec = Jvm.exec) (hb : c.code = cc) (hown : s.vm.findClass own = some mid.cls) (hts : ∀ w ∈ am_gt, w.before args s = true) (hK : va_K D am_cls (am_tys cA) s) (hR : ao_rel b base D cA S n H) (hS : va_S (fun q => base ≤ q) H0 H locs)
    {idx ci N : Nat} {C : String} {T : u_T} {ty : Nat → FieldType} (hcl : Cond.classLink own idx C ∈ am_gt) (hins : Cond.instantiable C N ∈ am_gt) (hini : Cond.initialized C ∈ am_gt) (hkd : am_kd 0 (n + 1) = (0, 0, ci)) (hc : am_cls[ci]? = some (C, T, N)) (hw : ∀ w ∈ u_ws C T N, w ∈ am_gt) (hty : ∀ k, k < N → parseFieldDescriptor (T k).2.2.1 = some (ty k))
    (hdf : ∀ k, k < N → defaultValue (ty k) = (match am_ft ci k with
      | 2 => Value.null
      | _ => .int 0)) (hft : ∀ k, k < N → am_ft ci k ≠ 9) (hn : ∀ q ∈ S, q.1 ≠ n + 1) (hcells : cells + 1 ≤ R.cells) (hslots : slots + N ≤ R.slots) (hdg : decode cc pc = .ok (.new idx, 3))
    (kk : ∀ H1, ao_rel b base D cA S (n + 1) H1 → va_S (fun q => base ≤ q) H0 H1 locs → W p l e R s mid args below meth c H1 locs (cells + 1) (slots + N) Qf (F0 mid (pc + 3) ls (.ref (base + n) :: st))) : W p l e R s mid args below meth c H locs cells slots Qf (F0 mid pc ls st) := by
  have hKn := hK.1 ci _ hc
  refine W.newcK hx hb hown (hts _ hcl) (hts _ hins) (hts _ hini) rfl hdg hcells hslots hKn.2.1 hR.2 fun H1 kC hkC e1 z1 o1 => ?_
  refine kk H1 (ao_push hR z1 o1 ?_) ⟨by have := hS.1; have := hR.2; omega, fun q h1 h2 => (o1 q (by have := hS.1; have := hR.2; omega)).trans (hS.2.1 q h1 h2), hS.2.2⟩
  have hcell : ao_cell (am_ad b base) cA S (n + 1) = .inr (ci, ao_f (am_ad b base) S (n + 1) 0 (am_ftL.getD ci [])) := by unfold ao_cell; rw [hkd] <;> rfl
  rw [hcell]
  refine ⟨_, hc, (u_born ty hts hw hKn hkC e1 hty).to fun k hk => ?_⟩
  show defaultValue (ty k) = _
  rw [hdf k hk]
  unfold vp_V
  rw [List.getD_eq_getElem?_getD, ao_f_get]
  have hat := am_ft_at (ci := ci) (k := k) rfl (hft k hk)
  rw [hat]
  show _ = ao_e (am_ad b base) S (n + 1) (0 + k) (am_ft ci k)
  unfold ao_e
  split
  · rw [if_neg]
    intro q
    exact hn _ q rfl
  · rfl
theorem ao_newa (hx : p.tables.exec = Jvm.exec) (hb : c.code = cc) (hts : ∀ w ∈ am_gt, w.before args s = true) (hK : va_K D am_cls (am_tys cA) s) (hR : ao_rel b base D cA S n H) (hS : va_S (fun q => base ≤ q) H0 H locs)
    {atype : ArrayType} {ty : FieldType} {t t0 N : Nat} {v : Int32} {a0 : vp_A} (harr : Cond.arrayClass ty ∈ am_gt) (hty : newarray.typeOf atype = ty) (htys : (am_tys cA)[t0]? = some (cA t, ty)) (hnob : ∀ C, ty ≠ .object C) (hcell : ao_cell (am_ad b base) cA S (n + 1) = .inl (cA t, a0)) (ha0 : ∀ c0 : ClassId, vp_cell c0 a0 = arrV c0 N (fun _ => defaultValue ty))
    (hn : ¬ v < 0) (hN : v.toNatClampNeg = N) (hbytes : N * componentBytes ty ≤ 536870912) (hcells : cells + 1 ≤ R.cells) (hslots : slots + N ≤ R.slots) (hdg : decode cc pc = .ok (.newarray atype, 2))
    (kk : ∀ H1, ao_rel b base D cA S (n + 1) H1 → va_S (fun q => base ≤ q) H0 H1 locs → W p l e R s mid args below meth c H1 locs (cells + 1) (slots + N) Qf (F0 mid (pc + 2) ls (.ref (base + n) :: st))) : W p l e R s mid args below meth c H locs cells slots Qf (F0 mid pc ls (.int v :: st)) := by
  subst hty
  refine va_newaK hx hb (hts _ harr) rfl hdg rfl hn hN hbytes hcells hslots hR.2 fun H1 c1 e1 z1 o1 hAr hNm => ?_
  refine kk H1 (ao_push hR z1 o1 ?_) ⟨by have := hS.1; have := hR.2; omega, fun q h1 h2 => (o1 q (by have := hS.1; have := hR.2; omega)).trans (hS.2.1 q h1 h2), hS.2.2⟩
  rw [hcell]
  have hra := (hK.2 t0 _ htys).2
  have hcls : c1 = cA t := by
    revert hra hNm hnob
    generalize newarray.typeOf atype = ty
    intro hnob hra hNm
    cases ty with
    | object C => exact absurd rfl (hnob C)
    | _ => exact (Option.some.inj (hNm.symm.trans hra)).symm
  show H1[base + n]? = some (vp_cell _ _)
  rw [ha0, e1, hcls]
theorem ao_put (hx : p.tables.exec = Jvm.exec) (hb : c.code = cc) (hown : s.vm.findClass own = some mid.cls) (hts : ∀ w ∈ am_gt, w.before args s = true) (hK : va_K D am_cls (am_tys cA) s) (hR : ao_rel b base D cA S n H) (hS : va_S (fun q => base ≤ q) H0 H locs) (hin2 : meth.name = "<init>")
    {idx ci N j k v : Nat} {T : u_T} {ty0 : Nat → FieldType} {ty : FieldType} {S' : List (Nat × Nat)} (hlink : Cond.fieldLink own idx own (T k).2.1 (T k).2.2.1 ∈ am_gt) (hkd : am_kd 0 (j + 1) = (0, 0, ci)) (hj : j < n) (hc : am_cls[ci]? = some (own, T, N)) (hw : ∀ w ∈ u_ws own T N, w ∈ am_gt) (hty : ∀ k, k < N → parseFieldDescriptor (T k).2.2.1 = some (ty0 k)) (hnm : ∀ a, a < N → ∀ b, b < N → a ≠ b → (T a).2.1 ≠ (T b).2.1)
    (hk : k < N) (hlen : (am_ftL.getD ci []).length = N) (hT1 : (T k).1 = own) (hfin : (T k).2.2.2 = true) (hd : parseFieldDescriptor (T k).2.2.1 = some ty) (hnr : ∀ a, narrow ty (.ref a) = .ref a) (hfit : ∀ a, fits ty (.ref a) = true) (hft : am_ft ci k = 2) (href : am_ref (j + 1) k = v + 1) (hS' : (j + 1, k) :: S = S') (hdg : decode cc pc = .ok (.putfield idx, 3))
    (kk : ∀ H1 locs1, ao_rel b base D cA S' n H1 → va_S (fun q => base ≤ q) H0 H1 locs1 → W p l e R s mid args below meth c H1 locs1 cells slots Qf (F0 mid (pc + 3) ls st)) : W p l e R s mid args below meth c H locs cells slots Qf (F0 mid pc ls (.ref (base + v) :: .ref (base + j) :: st)) := by
  subst hS'
  have hcell : ao_cell (am_ad b base) cA S (j + 1) = .inr (ci, ao_f (am_ad b base) S (j + 1) 0 (am_ftL.getD ci [])) := by unfold ao_cell; rw [hkd] <;> rfl
  have he := ao_ws_get (b := b) (base := base) (cA := cA) (S := S) hj
  rw [hcell] at he
  have hap := va_apart (own := own) hts hw ty0 hty hnm hK hc
  obtain ⟨r, h1, cell, q1, q2, q3, q4⟩ := hR.1 j _ he
  have hr : r = (own, T, N) := Option.some.inj (h1.symm.trans hc)
  subst hr
  obtain ⟨hSl, hfc, kC, hkC, hkind⟩ := hK.1 ci _ hc
  obtain ⟨cf, kf, fi, f, hi, hsl⟩ := hSl k hk
  have hlay := hts _ (hw _ (u_in_lay hk))
  unfold u_lay at hlay
  rw [if_pos hfin] at hlay
  have hst := (u_facts hfc hkC (u_lays hts hw hk) hi).1
  have hcf : mid.cls = cf := by
    obtain ⟨_, _, c', _, _, _, -, -, hf', -, -, -, hown2, -⟩ := Cond.laysFinal_spec hlay
    have e1 : c' = cf := by have := hi.symm.trans hf'; simp at this; exact this.1.symm
    rw [hT1] at hown2
    rw [← e1]; exact Option.some.inj (hown.symm.trans hown2)
  have h6 := u_fits hfc hkC hkind (Or.inr hlay) hi hd (hnr (base + v)) (hfit (base + v))
  refine W.putFinK hx hb hown (hts _ hlink) (by rw [hT1] at hi; exact hi) hst hcf hin2 (by rw [q2]; exact h6) q1 q3 (by rw [hsl]; exact k2_hasslot (q4 k hk)) rfl rfl hdg fun H' e1 e2 e3 => ?_
  rw [hsl] at e1 ⊢
  have hlt : k < (ao_f (am_ad b base) S (j + 1) 0 (am_ftL.getD ci [])).length := by rw [ao_f_len, hlen]; exact hk
  refine kk H' _ ⟨?_, by rw [e2]; exact hR.2⟩ (hS.put e2 e3 (ao_ws_D.2 j _ he))
  rw [ao_setS hkd hj hft, href]
  exact hR.1.set ao_ws_D he ⟨_, hc, t_OB.to (V := updV (vp_V (ao_f (am_ad b base) S (j + 1) 0 (am_ftL.getD ci []))) k (.ref (base + v))) ⟨_, e1, q2, q3, t_set q4 hap hk _⟩ (fun i _ => vp_updV_set hlt _ i)⟩ e3
theorem ao_get (hx : p.tables.exec = Jvm.exec) (hb : c.code = cc) (hown : s.vm.findClass own = some mid.cls) (hts : ∀ w ∈ am_gt, w.before args s = true) (hK : va_K D am_cls (am_tys cA) s) (hR : ao_rel b base D cA S n H)
    {idx ci N j k v : Nat} {T : u_T} (hlink : Cond.fieldLink own idx own (T k).2.1 (T k).2.2.1 ∈ am_gt) (hkd : am_kd 0 (j + 1) = (0, 0, ci)) (hj : j < n) (hc : am_cls[ci]? = some (own, T, N)) (hw : ∀ w ∈ u_ws own T N, w ∈ am_gt) (hk : k < N) (hT1 : (T k).1 = own) (hft : am_ft ci k = 2) (href : am_ref (j + 1) k = v + 1) (hmem : (j + 1, k) ∈ S) (hdg : decode cc pc = .ok (.getfield idx, 3))
    (kk : W p l e R s mid args below meth c H locs cells slots Qf (F0 mid (pc + 3) ls (.ref (base + v) :: st))) : W p l e R s mid args below meth c H locs cells slots Qf (F0 mid pc ls (.ref (base + j) :: st)) := by
  have hcell : ao_cell (am_ad b base) cA S (j + 1) = .inr (ci, ao_f (am_ad b base) S (j + 1) 0 (am_ftL.getD ci [])) := by unfold ao_cell; rw [hkd] <;> rfl
  have he := ao_ws_get (b := b) (base := base) (cA := cA) (S := S) hj
  rw [hcell] at he
  refine va_get (D := D) (ci := ci) (C := own) (T := T) (N := N) hx hb hts hw hown hK hR.1 j he hc k hk (hts _ hlink) (fun z hz => by rw [hT1] at hz; exact hz) ?_ hdg kk
  rw [ao_f_get, am_ft_at hft (by decide)]
  simp only [Option.map_some, Nat.zero_add]
  unfold ao_e
  rw [if_pos hmem, href]
  rfl
end AO
