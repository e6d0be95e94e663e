/-! a run of the abstract machine is a run of the machine: what goes with a method -/
noncomputable def am_gt : List Cond := lw_tbl.filter goodWord
theorem am_gt_in {i : Nat} {w : Cond} (h : lw_tbl[i]? = some w) (g : goodWord w = true) : w ∈ am_gt := List.mem_filter.mpr ⟨List.mem_of_getElem? h, g⟩
def am_nest (U : State) : Prop := ∀ a i x h, Cond.methodLinkNest a i x h ∈ lw_tbl → va_Nw (.methodLinkNest a i x h) U
theorem am_nest_warm {s U : State} (hW : s.WarmedH U.vm) (h : am_nest s) : am_nest U := fun a i x k hm => va_Nw.warmM hW (h a i x k hm)
theorem am_nest_vm {s U : State} (e : s.vm = U.vm) (h : am_nest s) : am_nest U := fun a i x k hm => va_Nw.same rfl e (h a i x k hm)
def am_tys (cA : Nat → ClassId) : List (ClassId × FieldType) := [(cA 1, .int), (cA 2, .long), (cA 3, .byte), (cA 4, .boolean)]
noncomputable def am_rel (Ln : Int) (b base : Nat) (D : va_G) (cA : Nat → ClassId) (xs : Nat → Int32) (σ : AS) (H : Heap) : Prop :=
  va_P D am_cls (am_ws Ln b base cA σ) H ∧ (∀ a i, match (am_kd Ln a).1 with
    | 2 => in64 (σ a i)
    | _ => in32 (σ a i)) ∧ ∀ j : Nat, j < Ln.toNat → σ 0 (j : Int) = (xs j).toInt
noncomputable def am_ctx (Ln : Int) (b base : Nat) (D : va_G) (cA : Nat → ClassId) (xs : Nat → Int32) (d m : Nat) (p : Program) (R : Room) (s : State) (mid : MethodId) (args : Array Value) (c : Code) (H0 : Heap) : Prop :=
  p.tables.exec = Jvm.exec ∧ c.code = (am_my m).2 ∧ c.maxLocals = (am_mt m).1 ∧ s.vm.findClass (am_my m).1.cls = some mid.cls ∧ (∀ w ∈ am_gt, w.before args s = true) ∧ am_nest s ∧ va_K D am_cls (am_tys cA) s ∧
  va_X b Ln.toNat xs s H0 ∧ b < base ∧ base ≤ H0.size ∧ d + 1 ≤ R.frames ∧ 40 * (d + 1) ≤ R.locals ∧ 0 ≤ Ln ∧ Ln ≤ 4096
/-- the place of an end, by its answer -/
noncomputable def am_retn (m pc : Nat) (v : Option AV) : Prop := match v with
  | none => decode (am_my m).2 pc = .ok (.return_, 1) ∧ (am_mt m).2.2 = 0
  | some (.inl x) => decode (am_my m).2 pc = .ok (.ireturn, 1) ∧ ((am_mt m).2.2 = 1 ∨ (am_mt m).2.2 = 2 ∧ am_b x) ∧ in32 x
  | some (.inr (.inl x)) => decode (am_my m).2 pc = .ok (.lreturn, 1) ∧ (am_mt m).2.2 = 3 ∧ in64 x
  | _ => False
def am_top (ad : Nat → Nat) (v : Option AV) : List Value := match v with
  | some v => [am_c ad v]
  | none => []
noncomputable def am_P (l : Launch) (Ln : Int) (b base : Nat) (D : va_G) (cA : Nat → ClassId) (xs : Nat → Int32) : AP := fun d m pc al st σ Q =>
  ∀ (p : Program) (e : Env) (R : Room) (s : State) (mid : MethodId) (args : Array Value) (below : List Frame) (meth : Method) (c : Code) (H H0 : Heap) (locs : List Loc) (cells slots : Nat) (Qf : State → Prop) (ls : Array Slot),
  am_ctx Ln b base D cA xs d m p R s mid args c H0 → am_rel Ln b base D cA xs σ H → va_S (fun q => base ≤ q) H0 H locs → cells ≤ R.cells → slots ≤ R.slots → am_loc (am_ad b base) ls (am_mt m).1 al → (∀ v ∈ al, am_in v) → (∀ v ∈ st, am_in v) →
  (∀ v σ' H' locs' pc' ls', Q v σ' → am_rel Ln b base D cA xs σ' H' → va_S (fun q => base ≤ q) H0 H' locs' → am_retn m pc' v → W p l e R s mid args below meth c H' locs' cells slots Qf (F0 mid pc' ls' (am_top (am_ad b base) v))) →
  W p l e R s mid args below meth c H locs cells slots Qf (F0 mid pc ls (st.map (am_c (am_ad b base))))
theorem am_P_forget {l : Launch} {Ln : Int} {b base : Nat} {D : va_G} {cA : Nat → ClassId} {xs : Nat → Int32} : am_fgt (am_P l Ln b base D cA xs) := by
  intro d m pc al al' st σ Q hle h p e R s mid args below meth c H H0 locs cells slots Qf ls hC hR hS hc hs hl hal hst hret
  have key : ∀ (x y : List AV), am_le x y → x.length = y.length ∧ ∀ (j : Nat) (v : AV), x[j]? = some v → v = vU ∨ y[j]? = some v := by
    intro x
    induction x with
    | nil =>
      intro y hy
      cases y with
      | nil => exact ⟨rfl, fun j v h => by simp at h⟩
      | cons a r => exact hy.elim
    | cons a r ih =>
      intro y hy
      cases y with
      | nil => exact hy.elim
      | cons a2 r2 =>
        obtain ⟨h1, h2⟩ := ih r2 hy.2
        refine ⟨by simp [h1], fun j v hj => ?_⟩
        cases j with
        | zero =>
          have e1 : a = v := by simpa using hj
          subst e1
          rcases hy.1 with q | q
          · right; rw [q]; rfl
          · left; exact q
        | succ j =>
          rcases h2 j v (by simpa using hj) with q | q
          · exact Or.inl q
          · exact Or.inr (by simpa using q)
  obtain ⟨k1, k2⟩ := key al' al hle
  refine h p e R s mid args below meth c H H0 locs cells slots Qf ls hC hR hS hc hs ?_ ?_ hst hret
  · refine am_loc_le (by rw [k1]; exact hl.1) hl.2 fun j v hj hv => ?_
    rcases k2 j v hj with q | q
    · exact absurd q hv
    · have := am_lv_of (ad := am_ad b base) hv (i := 0) q
      rwa [Nat.zero_add] at this
  · intro v hv
    obtain ⟨j, hj⟩ := List.getElem?_of_mem hv
    rcases k2 j v hj with q | q
    · rw [q]; trivial
    · exact hal v (List.mem_of_getElem? q)
/-! steps read backwards -/
section INV
variable {call : Nat → List AV → AS → (Option AV → AS → Prop) → Prop} {K : Nat → List AV → List AV → AS → Prop} {Q : Option AV → AS → Prop}
theorem am_i2_inv {st : List AV} {f : Int → Int → List AV → AA} (h : am_sem call K Q (am_i2 st f)) : ∃ x y r, st = vI y :: vI x :: r ∧ am_sem call K Q (f x y r) := by
  unfold am_i2 at h
  split at h
  · exact ⟨_, _, _, rfl, h⟩
  · exact h.1.elim
theorem am_l2_inv {st : List AV} {f : Int → Int → List AV → AA} (h : am_sem call K Q (am_l2 st f)) : ∃ x y r, st = vL y :: vL x :: r ∧ am_sem call K Q (f x y r) := by
  unfold am_l2 at h
  split at h
  · exact ⟨_, _, _, rfl, h⟩
  · exact h.1.elim
theorem am_i1_inv {st : List AV} {f : Int → List AV → AA} (h : am_sem call K Q (am_i1 st f)) : ∃ x r, st = vI x :: r ∧ am_sem call K Q (f x r) := by
  unfold am_i1 at h
  split at h
  · exact ⟨_, _, rfl, h⟩
  · exact h.1.elim
theorem am_ld_inv {ls st : List AV} {σ : AS} {pc i t : Nat} (h : am_sem call K Q (am_ld ls st σ pc i t)) : ∃ v, v ≠ vU ∧ ls.getD i vU = v ∧ K pc ls (v :: st) σ ∧ (match t with
    | 0 => ∃ x, v = vI x
    | 1 => ∃ x, v = vL x
    | _ => ∃ x, v = vR x) := by
  unfold am_ld at h
  split at h
  · rename_i x e _; exact ⟨vI x, (fun q => by cases q), e, h, x, rfl⟩
  · rename_i x e _; exact ⟨vL x, (fun q => by cases q), e, h, x, rfl⟩
  · rename_i x e _; exact ⟨vR x, (fun q => by cases q), e, h, x, rfl⟩
  · exact h.1.elim
theorem am_sto_inv0 {ls st : List AV} {σ : AS} {pc i : Nat} (h : am_sem call K Q (am_sto ls st σ pc i 0)) : ∃ x r, st = vI x :: r ∧ i < ls.length ∧ K pc (am_set ls i (vI x)) r σ := by
  unfold am_sto at h
  split at h
  · rename_i e; exact ⟨_, _, rfl, Nat.blt_eq.mp e, h⟩
  · omega
  · omega
  · exact h.1.elim
theorem am_sto_inv1 {ls st : List AV} {σ : AS} {pc i : Nat} (h : am_sem call K Q (am_sto ls st σ pc i 1)) : ∃ x r, st = vL x :: r ∧ i + 1 < ls.length ∧ K pc ((am_set ls i (vL x)).set (i + 1) vU) r σ := by
  unfold am_sto at h
  split at h
  · omega
  · split at h
    · rename_i e; exact ⟨_, _, rfl, Nat.blt_eq.mp e, h⟩
    · exact h.1.elim
  · omega
  · exact h.1.elim
theorem am_sto_inv2 {ls st : List AV} {σ : AS} {pc i : Nat} (h : am_sem call K Q (am_sto ls st σ pc i 2)) : ∃ x r, st = vR x :: r ∧ i < ls.length ∧ K pc (am_set ls i (vR x)) r σ := by
  unfold am_sto at h
  split at h
  · omega
  · omega
  · rename_i e; exact ⟨_, _, rfl, Nat.blt_eq.mp e, h⟩
  · exact h.1.elim
theorem am_inv_inv {Ln : Int} {v : Bool} {ci : Int} {ls st : List AV} {σ : AS} {pc m n : Nat} (h : am_sem call K Q (am_inv Ln v ci ls st σ pc m n)) : n ≤ st.length ∧ (st.drop n).length ≤ 4 ∧ (am_exp (st.take n).reverse).length ≤ (am_mt m).1 ∧ am_rcv Ln v ci (st.take n).reverse = true ∧
    ∃ T : Option AV → AS → Prop, call m (st.take n).reverse σ T ∧ am_kont (am_mt m).2.2 T K pc ls (st.drop n) := by
  unfold am_inv at h
  split at h
  · rename_i e1 e2 e3 e4
    exact ⟨Nat.ble_eq.mp e1, Nat.ble_eq.mp e2, Nat.ble_eq.mp e3, e4, h⟩
  · exact h.1.elim
end INV
