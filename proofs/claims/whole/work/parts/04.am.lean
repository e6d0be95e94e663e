/-! the abstract machine: values, stores, one step -/
abbrev AV : Type := Int ⊕ Int ⊕ Nat ⊕ Unit
abbrev vI (x : Int) : AV := .inl x
abbrev vL (x : Int) : AV := .inr (.inl x)
abbrev vR (a : Nat) : AV := .inr (.inr (.inl a))
abbrev vU : AV := .inr (.inr (.inr ()))
abbrev AS : Type := Nat → Int → Int
def w32 (x : Int) : Int := (x + 2147483648) % 4294967296 - 2147483648
def w64 (x : Int) : Int := (x + 9223372036854775808) % 18446744073709551616 - 9223372036854775808
def w8 (x : Int) : Int := ((Int32.ofInt x).toInt8.toInt32).toInt
def bAnd (x y : Int) : Int := (Int32.ofInt x &&& Int32.ofInt y).toInt
def bOr (x y : Int) : Int := (Int32.ofInt x ||| Int32.ofInt y).toInt
def bShl (x y : Int) : Int := (Int32.ofInt x <<< (Int32.ofInt y &&& 31)).toInt
def bShr (x y : Int) : Int := (Int32.ofInt x >>> (Int32.ofInt y &&& 31)).toInt
def lAnd (x y : Int) : Int := (Int64.ofInt x &&& Int64.ofInt y).toInt
def lOr (x y : Int) : Int := (Int64.ofInt x ||| Int64.ofInt y).toInt
def lShl (x y : Int) : Int := (Int64.ofInt x <<< ((Int32.ofInt y).toInt64 &&& 63)).toInt
def lShr (x y : Int) : Int := (Int64.ofInt x >>> ((Int32.ofInt y).toInt64 &&& 63)).toInt
def lCmp (x y : Int) : Int := if x < y then -1 else if x = y then 0 else 1
def am_up (σ : AS) (c : Nat) (i v : Int) : AS := fun c' i' => match Nat.beq c' c with
  | true => if i' = i then v else σ c' i'
  | false => σ c' i'
def am_cpy (σ : AS) (a0 a1 : Nat) (sp dp n : Int) : AS := fun c i => match Nat.beq c a1 with
  | true => if dp ≤ i ∧ i < dp + n then σ a0 (sp + (i - dp)) else σ c i
  | false => σ c i
def am_b (x : Int) : Prop := x = 0 ∨ x = 1
/-- what a step does: goes on; goes on if something holds; two ways; many ways; a call; an end -/
abbrev AC : Type := Nat × List AV × List AV × AS
abbrev AA : Type := AC ⊕ (Prop × AC) ⊕ (Prop × AC × AC) ⊕ List (Prop × AC) ⊕ (Nat × List AV × AC) ⊕ (Option AV × AS) ⊕ (Prop × Option AV × AS)
abbrev aN (pc : Nat) (ls st : List AV) (σ : AS) : AA := .inl (pc, ls, st, σ)
abbrev aC (h : Prop) (pc : Nat) (ls st : List AV) (σ : AS) : AA := .inr (.inl (h, pc, ls, st, σ))
abbrev aB (h : Prop) (pc1 pc2 : Nat) (ls st : List AV) (σ : AS) : AA := .inr (.inr (.inl (h, (pc1, ls, st, σ), (pc2, ls, st, σ))))
abbrev aW (l : List (Prop × AC)) : AA := .inr (.inr (.inr (.inl l)))
abbrev aF (m : Nat) (as : List AV) (pc : Nat) (ls st : List AV) (σ : AS) : AA := .inr (.inr (.inr (.inr (.inl (m, as, pc, ls, st, σ)))))
abbrev aR (v : Option AV) (σ : AS) : AA := .inr (.inr (.inr (.inr (.inr (.inl (v, σ))))))
abbrev aQ (h : Prop) (v : Option AV) (σ : AS) : AA := .inr (.inr (.inr (.inr (.inr (.inr (h, v, σ))))))
abbrev aX : AA := aQ False none (fun _ _ => 0)
def am_isL (v : AV) : Bool := match v with
  | .inr (.inl _) => true
  | _ => false
def am_set (ls : List AV) (i : Nat) (v : AV) : List AV := match i with
  | 0 => ls.set 0 v
  | j + 1 => match am_isL (ls.getD j vU) with
    | true => (ls.set j vU).set (j + 1) v
    | false => ls.set (j + 1) v
def am_tgt (pc : Nat) (off : Int) : Nat := ((pc : Int) + off).toNat
def am_ld (ls st : List AV) (σ : AS) (pc i t : Nat) : AA := match t, ls.getD i vU with
  | 0, .inl x => aN pc ls (vI x :: st) σ
  | 1, .inr (.inl x) => aN pc ls (vL x :: st) σ
  | 2, .inr (.inr (.inl a)) => aN pc ls (vR a :: st) σ
  | _, _ => aX
def am_sto (ls st : List AV) (σ : AS) (pc i t : Nat) : AA := match t, Nat.blt i ls.length, st with
  | 0, true, .inl x :: st => aN pc (am_set ls i (vI x)) st σ
  | 1, _, .inr (.inl x) :: st => (match Nat.blt (i + 1) ls.length with
    | true => aN pc ((am_set ls i (vL x)).set (i + 1) vU) st σ
    | false => aX)
  | 2, true, .inr (.inr (.inl a)) :: st => aN pc (am_set ls i (vR a)) st σ
  | _, _, _ => aX
def am_tab (ls st : List AV) (σ : AS) (pc : Nat) (x : Int) : Int → List Int → List (Prop × AC)
  | _, [] => []
  | lo, off :: r => (x = lo, am_tgt pc off, ls, st, σ) :: am_tab ls st σ pc x (lo + 1) r
def am_lkp (ls st : List AV) (σ : AS) (pc : Nat) (x : Int) : List (Int × Int) → List (Prop × AC)
  | [] => []
  | (k, off) :: r => (x = k, am_tgt pc off, ls, st, σ) :: am_lkp ls st σ pc x r
def am_ne (x : Int) : List (Int × Int) → Prop
  | [] => True
  | (k, _) :: r => ¬ x = k ∧ am_ne x r
def am_i2 (st : List AV) (f : Int → Int → List AV → AA) : AA := match st with
  | .inl y :: .inl x :: st => f x y st
  | _ => aX
def am_l2 (st : List AV) (f : Int → Int → List AV → AA) : AA := match st with
  | .inr (.inl y) :: .inr (.inl x) :: st => f x y st
  | _ => aX
def am_i1 (st : List AV) (f : Int → List AV → AA) : AA := match st with
  | .inl x :: st => f x st
  | _ => aX
def am_br (cd : ClassFile.Cond) (x y : Int) (t f : Nat) (ls st : List AV) (σ : AS) : AA := match cd with
  | .eq => aB (x = y) t f ls st σ
  | .ne => aB (x = y) f t ls st σ
  | .lt => aB (x < y) t f ls st σ
  | .ge => aB (y ≤ x) t f ls st σ
  | .gt => aB (y < x) t f ls st σ
  | .le => aB (x ≤ y) t f ls st σ
noncomputable def am_fld (Ln : Int) (a ci k : Nat) : Nat := match am_kd Ln a with
  | (0, _, c) => (match Nat.beq c ci with
    | true => am_ft ci k
    | false => 9)
  | _ => 9
def am_exp : List AV → List AV
  | [] => []
  | v :: r => (match am_isL v with
    | true => v :: vU :: am_exp r
    | false => v :: am_exp r)
/-- the receiver of a call is an object of that class -/
noncomputable def am_rcv (Ln : Int) (v : Bool) (ci : Int) (as : List AV) : Bool := match v with
  | false => true
  | true => (match as with
    | .inr (.inr (.inl a)) :: _ => (match am_kd Ln a with
      | (0, _, k) => Nat.beq k ci.toNat
      | _ => false)
    | _ => false)
noncomputable def am_inv (Ln : Int) (v : Bool) (ci : Int) (ls st : List AV) (σ : AS) (pc m n : Nat) : AA := match Nat.ble n st.length, Nat.ble (st.drop n).length 4, Nat.ble (am_exp (st.take n).reverse).length (am_mt m).1, am_rcv Ln v ci (st.take n).reverse with
  | true, true, true, true => aF m (st.take n).reverse pc ls (st.drop n) σ
  | _, _, _, _ => aX
noncomputable def am_act (Ln : Int) (op : am_Op) (pc : Nat) (ls st : List AV) (σ : AS) : AA := match op with
  | (ins, len, x, y, c, _) => match ins with
    | .iconst n => aN (pc + len) ls (vI n :: st) σ
    | .bipush n => aN (pc + len) ls (vI n :: st) σ
    | .sipush n => aN (pc + len) ls (vI n :: st) σ
    | .ldc _ => aN (pc + len) ls (vI c :: st) σ
    | .ldc_w _ => aN (pc + len) ls (vI c :: st) σ
    | .lconst n => aN (pc + len) ls (vL ((n : Nat) : Int) :: st) σ
    | .ldc2_w _ => aN (pc + len) ls (vL c :: st) σ
    | .iload i => am_ld ls st σ (pc + len) i 0
    | .iload_n i => am_ld ls st σ (pc + len) i 0
    | .lload i => am_ld ls st σ (pc + len) i 1
    | .lload_n i => am_ld ls st σ (pc + len) i 1
    | .aload i => am_ld ls st σ (pc + len) i 2
    | .aload_n i => am_ld ls st σ (pc + len) i 2
    | .istore i => am_sto ls st σ (pc + len) i 0
    | .istore_n i => am_sto ls st σ (pc + len) i 0
    | .lstore i => am_sto ls st σ (pc + len) i 1
    | .lstore_n i => am_sto ls st σ (pc + len) i 1
    | .astore i => am_sto ls st σ (pc + len) i 2
    | .astore_n i => am_sto ls st σ (pc + len) i 2
    | .iinc i n => (match Nat.blt i ls.length, ls.getD i vU with
      | true, .inl v => aN (pc + len) (am_set ls i (vI (w32 (v + n)))) st σ
      | _, _ => aX)
    | .iadd => am_i2 st fun a b st => aN (pc + len) ls (vI (w32 (a + b)) :: st) σ
    | .isub => am_i2 st fun a b st => aN (pc + len) ls (vI (w32 (a - b)) :: st) σ
    | .imul => am_i2 st fun a b st => aN (pc + len) ls (vI (w32 (a * b)) :: st) σ
    | .idiv => am_i2 st fun a b st => aC (¬ b = 0) (pc + len) ls (vI (w32 (Int.tdiv a b)) :: st) σ
    | .irem => am_i2 st fun a b st => aC (¬ b = 0) (pc + len) ls (vI (Int.tmod a b) :: st) σ
    | .iand => am_i2 st fun a b st => aN (pc + len) ls (vI (bAnd a b) :: st) σ
    | .ior => am_i2 st fun a b st => aN (pc + len) ls (vI (bOr a b) :: st) σ
    | .ishl => am_i2 st fun a b st => aN (pc + len) ls (vI (bShl a b) :: st) σ
    | .ishr => am_i2 st fun a b st => aN (pc + len) ls (vI (bShr a b) :: st) σ
    | .ladd => am_l2 st fun a b st => aN (pc + len) ls (vL (w64 (a + b)) :: st) σ
    | .lsub => am_l2 st fun a b st => aN (pc + len) ls (vL (w64 (a - b)) :: st) σ
    | .lmul => am_l2 st fun a b st => aN (pc + len) ls (vL (w64 (a * b)) :: st) σ
    | .ldiv => am_l2 st fun a b st => aC (¬ b = 0) (pc + len) ls (vL (w64 (Int.tdiv a b)) :: st) σ
    | .lrem => am_l2 st fun a b st => aC (¬ b = 0) (pc + len) ls (vL (Int.tmod a b) :: st) σ
    | .land => am_l2 st fun a b st => aN (pc + len) ls (vL (lAnd a b) :: st) σ
    | .lor => am_l2 st fun a b st => aN (pc + len) ls (vL (lOr a b) :: st) σ
    | .lshl => (match st with
      | .inl b :: .inr (.inl a) :: st => aN (pc + len) ls (vL (lShl a b) :: st) σ
      | _ => aX)
    | .lshr => (match st with
      | .inl b :: .inr (.inl a) :: st => aN (pc + len) ls (vL (lShr a b) :: st) σ
      | _ => aX)
    | .lcmp => am_l2 st fun a b st => aN (pc + len) ls (vI (lCmp a b) :: st) σ
    | .i2l => am_i1 st fun a st => aN (pc + len) ls (vL a :: st) σ
    | .l2i => (match st with
      | .inr (.inl a) :: st => aN (pc + len) ls (vI (w32 a) :: st) σ
      | _ => aX)
    | .i2b => am_i1 st fun a st => aN (pc + len) ls (vI (w8 a) :: st) σ
    | .dup => (match st with
      | .inl a :: st => aN (pc + len) ls (vI a :: vI a :: st) σ
      | .inr (.inr (.inl a)) :: st => aN (pc + len) ls (vR a :: vR a :: st) σ
      | _ => aX)
    | .dup2 => (match st with
      | .inl b :: .inr (.inr (.inl a)) :: st => aN (pc + len) ls (vI b :: vR a :: vI b :: vR a :: st) σ
      | _ => aX)
    | .pop => (match st with
      | .inl _ :: st => aN (pc + len) ls st σ
      | .inr (.inr (.inl _)) :: st => aN (pc + len) ls st σ
      | _ => aX)
    | .goto off => aN (am_tgt pc off) ls st σ
    | .ifCond cd off => am_i1 st fun a st => am_br cd a 0 (am_tgt pc off) (pc + len) ls st σ
    | .if_icmp cd off => am_i2 st fun a b st => am_br cd a b (am_tgt pc off) (pc + len) ls st σ
    | .tableswitch d lo hi offs => am_i1 st fun a st => aW (am_tab ls st σ pc a lo offs.toList ++ [(a < lo ∨ hi < a, am_tgt pc d, ls, st, σ)])
    | .lookupswitch d ps => am_i1 st fun a st => aW (am_lkp ls st σ pc a ps.toList ++ [(am_ne a ps.toList, am_tgt pc d, ls, st, σ)])
    | .getfield _ => (match st with
      | .inr (.inr (.inl a)) :: st => (match am_fld Ln a x y with
        | 0 => aN (pc + len) ls (vI (σ a y) :: st) σ
        | 1 => aN (pc + len) ls (vI (σ a y) :: st) σ
        | 2 => aN (pc + len) ls (vR (am_ref a y) :: st) σ
        | _ => aX)
      | _ => aX)
    | .putfield _ => (match st with
      | .inl v :: .inr (.inr (.inl a)) :: st => (match am_fld Ln a x y with
        | 0 => aN (pc + len) ls st (am_up σ a y v)
        | 1 => aC (am_b v) (pc + len) ls st (am_up σ a y v)
        | _ => aX)
      | _ => aX)
    | .arraylength => (match st with
      | .inr (.inr (.inl a)) :: st => (match am_kd Ln a with
        | (0, _, _) => aX
        | (9, _, _) => aX
        | (_, n, _) => aN (pc + len) ls (vI n :: st) σ)
      | _ => aX)
    | .iaload => (match st with
      | .inl i :: .inr (.inr (.inl a)) :: st => (match am_kd Ln a with
        | (1, n, _) => aC (0 ≤ i ∧ i < n) (pc + len) ls (vI (σ a i) :: st) σ
        | (5, n, _) => aC (0 ≤ i ∧ i < n) (pc + len) ls (vI (σ a i) :: st) σ
        | _ => aX)
      | _ => aX)
    | .laload => (match st with
      | .inl i :: .inr (.inr (.inl a)) :: st => (match am_kd Ln a with
        | (2, n, _) => aC (0 ≤ i ∧ i < n) (pc + len) ls (vL (σ a i) :: st) σ
        | _ => aX)
      | _ => aX)
    | .baload => (match st with
      | .inl i :: .inr (.inr (.inl a)) :: st => (match am_kd Ln a with
        | (3, n, _) => aC (0 ≤ i ∧ i < n) (pc + len) ls (vI (σ a i) :: st) σ
        | (4, n, _) => aC (0 ≤ i ∧ i < n) (pc + len) ls (vI (σ a i) :: st) σ
        | _ => aX)
      | _ => aX)
    | .iastore => (match st with
      | .inl v :: .inl i :: .inr (.inr (.inl a)) :: st => (match am_kd Ln a with
        | (1, n, _) => aC (0 ≤ i ∧ i < n) (pc + len) ls st (am_up σ a i v)
        | _ => aX)
      | _ => aX)
    | .lastore => (match st with
      | .inr (.inl v) :: .inl i :: .inr (.inr (.inl a)) :: st => (match am_kd Ln a with
        | (2, n, _) => aC (0 ≤ i ∧ i < n) (pc + len) ls st (am_up σ a i v)
        | _ => aX)
      | _ => aX)
    | .bastore => (match st with
      | .inl v :: .inl i :: .inr (.inr (.inl a)) :: st => (match am_kd Ln a with
        | (3, n, _) => aC (0 ≤ i ∧ i < n) (pc + len) ls st (am_up σ a i (w8 v))
        | (4, n, _) => aC (0 ≤ i ∧ i < n) (pc + len) ls st (am_up σ a i (bAnd v 1))
        | _ => aX)
      | _ => aX)
    | .invokevirtual _ => am_inv Ln true c ls st σ (pc + len) x y
    | .invokestatic _ => (match c with
      | 3 => (match st with
        | .inl n :: .inl dp :: .inr (.inr (.inl a1)) :: .inl sp :: .inr (.inr (.inl a0)) :: st => (match am_kd Ln a0, am_kd Ln a1, Nat.ble st.length 4 with
          | (1, n0, _), (1, n1, _), true => aC (0 ≤ sp ∧ 0 ≤ dp ∧ 0 ≤ n ∧ sp + n ≤ n0 ∧ dp + n ≤ n1) (pc + len) ls st (am_cpy σ a0 a1 sp dp n)
          | _, _, _ => aX)
        | _ => aX)
      | 4 => am_i2 st fun a b st => (match Nat.ble st.length 4 with
        | true => aN (pc + len) ls (vI (max a b) :: st) σ
        | false => aX)
      | 5 => am_i2 st fun a b st => (match Nat.ble st.length 4 with
        | true => aN (pc + len) ls (vI (min a b) :: st) σ
        | false => aX)
      | _ => am_inv Ln false c ls st σ (pc + len) x y)
    | .ireturn => (match st with
      | [.inl v] => (match x with
        | 1 => aQ (am_b v) (some (vI v)) σ
        | _ => aR (some (vI v)) σ)
      | _ => aX)
    | .lreturn => (match st with
      | [.inr (.inl v)] => aR (some (vL v)) σ
      | _ => aX)
    | .return_ => (match st with
      | [] => aR none σ
      | _ => aX)
    | _ => aX
/-- behind a call: by what kind of answer the callee has -/
def am_kont (t : Nat) (T : Option AV → AS → Prop) (K : Nat → List AV → List AV → AS → Prop) (pc : Nat) (ls st : List AV) : Prop := match t with
  | 0 => ∀ σ1, T none σ1 → K pc ls st σ1
  | 3 => ∀ (x : Int) σ1, T (some (vL x)) σ1 → K pc ls (vL x :: st) σ1
  | _ => ∀ (x : Int) σ1, T (some (vI x)) σ1 → K pc ls (vI x :: st) σ1
theorem am_kont_mono {t : Nat} {T : Option AV → AS → Prop} {K K' : Nat → List AV → List AV → AS → Prop} {pc : Nat} {ls st : List AV} (hK : ∀ pc ls st σ, K pc ls st σ → K' pc ls st σ) (h : am_kont t T K pc ls st) : am_kont t T K' pc ls st := by
  match t, h with
  | 0, h => exact fun σ q => hK _ _ _ _ (h σ q)
  | 1, h => exact fun x σ q => hK _ _ _ _ (h x σ q)
  | 2, h => exact fun x σ q => hK _ _ _ _ (h x σ q)
  | 3, h => exact fun x σ q => hK _ _ _ _ (h x σ q)
  | t + 4, h => exact fun x σ q => hK _ _ _ _ (h x σ q)
/-- what is said of an answer -/
def am_rI (P : Int → AS → Prop) : Option AV → AS → Prop := fun r σ => match r with
  | some (.inl x) => P x σ
  | _ => False
def am_rL (P : Int → AS → Prop) : Option AV → AS → Prop := fun r σ => match r with
  | some (.inr (.inl x)) => P x σ
  | _ => False
def am_rV (P : AS → Prop) : Option AV → AS → Prop := fun r σ => match r with
  | none => P σ
  | _ => False
def am_all (K : Nat → List AV → List AV → AS → Prop) : List (Prop × AC) → Prop
  | [] => True
  | (h, pc, ls, st, σ) :: r => (h → K pc ls st σ) ∧ am_all K r
noncomputable def am_sem (call : Nat → List AV → AS → (Option AV → AS → Prop) → Prop) (K : Nat → List AV → List AV → AS → Prop) (Q : Option AV → AS → Prop) (a : AA) : Prop := match a with
  | .inl (pc, ls, st, σ) => K pc ls st σ
  | .inr (.inl (h, pc, ls, st, σ)) => h ∧ K pc ls st σ
  | .inr (.inr (.inl (h, (pc1, ls1, st1, σ1), (pc2, ls2, st2, σ2)))) => (h → K pc1 ls1 st1 σ1) ∧ (¬ h → K pc2 ls2 st2 σ2)
  | .inr (.inr (.inr (.inl l))) => am_all K l
  | .inr (.inr (.inr (.inr (.inl (m, as, pc, ls, st, σ))))) => ∃ T : Option AV → AS → Prop, call m as σ T ∧ am_kont (am_mt m).2.2 T K pc ls st
  | .inr (.inr (.inr (.inr (.inr (.inl (v, σ)))))) => Q v σ
  | .inr (.inr (.inr (.inr (.inr (.inr (h, v, σ)))))) => h ∧ Q v σ
theorem am_all_mono {K K' : Nat → List AV → List AV → AS → Prop} (hK : ∀ pc ls st σ, K pc ls st σ → K' pc ls st σ) : ∀ l : List (Prop × AC), am_all K l → am_all K' l
  | [], _ => trivial
  | (_, pc, ls, st, σ) :: r, h => ⟨fun q => hK _ _ _ _ (h.1 q), am_all_mono hK r h.2⟩
theorem am_sem_mono {call call' : Nat → List AV → AS → (Option AV → AS → Prop) → Prop} {K K' : Nat → List AV → List AV → AS → Prop} {Q Q' : Option AV → AS → Prop}
    (hc : ∀ m as σ T, call m as σ T → call' m as σ T) (hK : ∀ pc ls st σ, K pc ls st σ → K' pc ls st σ) (hQ : ∀ v σ, Q v σ → Q' v σ) (a : AA) (h : am_sem call K Q a) : am_sem call' K' Q' a := by
  match a, h with
  | .inl (pc, ls, st, σ), h => exact hK _ _ _ _ h
  | .inr (.inl (g, pc, ls, st, σ)), h => exact ⟨h.1, hK _ _ _ _ h.2⟩
  | .inr (.inr (.inl (g, (pc1, ls1, st1, σ1), (pc2, ls2, st2, σ2)))), h => exact ⟨fun q => hK _ _ _ _ (h.1 q), fun q => hK _ _ _ _ (h.2 q)⟩
  | .inr (.inr (.inr (.inl l))), h => exact am_all_mono hK l h
  | .inr (.inr (.inr (.inr (.inl (m, as, pc, ls, st, σ))))), h =>
    obtain ⟨T, h1, h2⟩ := h
    exact ⟨T, hc _ _ _ _ h1, am_kont_mono hK h2⟩
  | .inr (.inr (.inr (.inr (.inr (.inl (v, σ)))))), h => exact hQ _ _ h
  | .inr (.inr (.inr (.inr (.inr (.inr (g, v, σ)))))), h => exact ⟨h.1, hQ _ _ h.2⟩
/-- the locals with which a method begins -/
def am_pad : Nat → List AV → List AV
  | 0, _ => []
  | n + 1, [] => vU :: am_pad n []
  | n + 1, v :: r => v :: am_pad n r
noncomputable def am_entry (m : Nat) (as : List AV) : List AV := am_pad (am_mt m).1 (am_exp as)
def am_le : List AV → List AV → Prop
  | [], [] => True
  | a :: l, b :: k => (a = b ∨ a = vU) ∧ am_le l k
  | _, _ => False
/-- a family of claims that is closed under steps, and under forgetting of locals -/
abbrev AP : Type := Nat → Nat → Nat → List AV → List AV → AS → (Option AV → AS → Prop) → Prop
noncomputable def am_cl (P : AP) (d m : Nat) (as : List AV) (σ : AS) (T : Option AV → AS → Prop) : Prop := match d with
  | 0 => False
  | d' + 1 => P d' m 0 (am_entry m as) [] σ T
def am_stp (Ln : Int) (P : AP) : Prop := ∀ d m pc ls st σ Q op, am_op m pc = some op → am_sem (am_cl P d) (fun pc ls st σ => P d m pc ls st σ Q) Q (am_act Ln op pc ls st σ) → P d m pc ls st σ Q
def am_fgt (P : AP) : Prop := ∀ d m pc ls ls' st σ Q, am_le ls' ls → P d m pc ls' st σ Q → P d m pc ls st σ Q
/-- the run from here comes to an end, and there Q holds -/
def am_E (Ln : Int) (d m pc : Nat) (ls st : List AV) (σ : AS) (Q : Option AV → AS → Prop) : Prop := ∀ P : AP, am_stp Ln P → am_fgt P → P d m pc ls st σ Q
noncomputable def am_M (Ln : Int) (d m : Nat) (as : List AV) (σ : AS) (T : Option AV → AS → Prop) : Prop := am_cl (am_E Ln) d m as σ T
theorem am_cl_mono {P P' : AP} (h : ∀ d m pc ls st σ Q, P d m pc ls st σ Q → P' d m pc ls st σ Q) (d m : Nat) (as : List AV) (σ : AS) (T : Option AV → AS → Prop) (q : am_cl P d m as σ T) : am_cl P' d m as σ T := by
  cases d with
  | zero => exact q
  | succ d => exact h _ _ _ _ _ _ _ q
theorem am_E_step (Ln : Int) : am_stp Ln (am_E Ln) := by
  intro d m pc ls st σ Q op ho h P hs hf
  exact hs d m pc ls st σ Q op ho (am_sem_mono (am_cl_mono (fun d m pc ls st σ Q q => q P hs hf) d) (fun pc ls st σ q => q P hs hf) (fun _ _ q => q) _ h)
theorem am_E_forget (Ln : Int) : am_fgt (am_E Ln) := fun d m pc ls ls' st σ Q hl h P hs hf => hf d m pc ls ls' st σ Q hl (h P hs hf)
/-- one could ask less -/
theorem am_E_post {Ln : Int} {d m pc : Nat} {ls st : List AV} {σ : AS} {Q Q' : Option AV → AS → Prop} (h : am_E Ln d m pc ls st σ Q) (hQ : ∀ v σ, Q v σ → Q' v σ) : am_E Ln d m pc ls st σ Q' := by
  refine h (fun d m pc ls st σ Q => ∀ Q' : Option AV → AS → Prop, (∀ v σ, Q v σ → Q' v σ) → am_E Ln d m pc ls st σ Q') ?_ ?_ Q' hQ
  · intro d m pc ls st σ Q op ho h Q' hQ
    refine am_E_step Ln d m pc ls st σ Q' op ho (am_sem_mono ?_ (fun pc ls st σ q => q Q' hQ) hQ _ h)
    intro m as σ T q
    exact am_cl_mono (fun d m pc ls st σ Q q => q Q (fun _ _ q => q)) d m as σ T q
  · intro d m pc ls ls' st σ Q hl h Q' hQ
    exact am_E_forget Ln d m pc ls ls' st σ Q' hl (h Q' hQ)
theorem am_M_post {Ln : Int} {d m : Nat} {as : List AV} {σ : AS} {Q Q' : Option AV → AS → Prop} (h : am_M Ln d m as σ Q) (hQ : ∀ v σ, Q v σ → Q' v σ) : am_M Ln d m as σ Q' := by
  cases d with
  | zero => exact h
  | succ d => exact am_E_post (show am_E Ln d m 0 (am_entry m as) [] σ Q from h) hQ
def am_mask : List Bool → List AV → List AV
  | b :: bs, v :: vs => (match b with
    | true => v :: am_mask bs vs
    | false => vU :: am_mask bs vs)
  | _, vs => vs
theorem am_le_rf : ∀ l : List AV, am_le l l
  | [] => trivial
  | _ :: l => ⟨Or.inl rfl, am_le_rf l⟩
theorem am_mask_le : ∀ (bs : List Bool) (vs : List AV), am_le (am_mask bs vs) vs
  | [], vs => by
    have h : am_mask [] vs = vs := by cases vs <;> rfl
    rw [h]
    exact am_le_rf vs
  | b :: bs, [] => trivial
  | true :: bs, v :: vs => ⟨Or.inl rfl, am_mask_le bs vs⟩
  | false :: bs, v :: vs => ⟨Or.inr rfl, am_mask_le bs vs⟩
def am_stop : List (Nat × List Bool) → Nat → Option (List Bool)
  | [], _ => none
  | (k, b) :: r, pc => (match Nat.beq k pc with
    | true => some b
    | false => am_stop r pc)
/-- the condition under which a run from here is right, up to the places where it is cut -/
noncomputable def am_vc (Ln : Int) (d m : Nat) (cut : List (Nat × List Bool)) (Q : Option AV → AS → Prop) : Nat → Nat → List AV → List AV → AS → Prop
  | 0, pc, ls, st, σ => am_E Ln d m pc ls st σ Q
  | n + 1, pc, ls, st, σ => (match am_op m pc with
    | some op => am_sem (am_M Ln d) (fun pc ls st σ => (match am_stop cut pc with
      | some bs => am_E Ln d m pc (am_mask bs ls) st σ Q
      | none => am_vc Ln d m cut Q n pc ls st σ)) Q (am_act Ln op pc ls st σ)
    | none => False)
theorem am_vc_E {Ln : Int} {d m : Nat} {cut : List (Nat × List Bool)} {Q : Option AV → AS → Prop} : ∀ (n pc : Nat) (ls st : List AV) (σ : AS), am_vc Ln d m cut Q n pc ls st σ → am_E Ln d m pc ls st σ Q
  | 0, _, _, _, _, h => h
  | n + 1, pc, ls, st, σ, h => by
    rw [am_vc] at h
    cases ho : am_op m pc with
    | none => rw [ho] at h; exact h.elim
    | some op =>
      rw [ho] at h
      refine am_E_step Ln d m pc ls st σ Q op ho (am_sem_mono (fun m as σ T q => q) ?_ (fun _ _ q => q) _ h)
      intro pc2 ls2 st2 σ2 q
      cases hc : am_stop cut pc2 with
      | none => rw [hc] at q; exact am_vc_E n pc2 ls2 st2 σ2 q
      | some bs => rw [hc] at q; exact am_E_forget Ln d m pc2 ls2 _ st2 σ2 Q (am_mask_le bs ls2) q
