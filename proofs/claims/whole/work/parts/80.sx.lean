/-! what a piece of the class's code means -/
abbrev GF : Type := (Int → Int) → Option Int
def rk (w x y : Int) : Int := if w = 5 then w64 (x + y) else if w = 6 then w64 (x - y) else if w = 7 then w64 (x * y) else if w = 8 then (if y = 0 then 0 else w64 (Int.tdiv x y)) else if w = 9 then (if y = 0 then 0 else Int.tmod x y) else if w = 10 then (if x < y then 1 else 0) else if w = 11 then (if y < x then 1 else 0) else if x = y then 1 else 0
def bing (w : Int) (g1 g2 : GF) : GF := fun f => match g1 f with
  | none => none
  | some x => (match g2 f with
    | none => none
    | some y => if y = 0 ∧ (w = 8 ∨ w = 9) then none else some (rk w x y))
def notg (g : GF) : GF := fun f => match g f with
  | none => none
  | some x => some (w64 (1 - x))
def andg (g1 g2 : GF) : GF := fun f => match g1 f with
  | none => none
  | some x => if x = 0 then some x else g2 f
def org (g1 g2 : GF) : GF := fun f => match g1 f with
  | none => none
  | some x => if x = 0 then g2 f else some x
theorem sp_reckon {Ln : Int} {d : Nat} {σ : AS} {w x y : Int} : am_M Ln (d + 1) 53 [vI w, vL x, vL y] σ (am_rL fun r σ' => r = rk w x y ∧ σ' = σ) := by
  refine vm_X7_reckon _ _ _ _ ⟨fun q => ⟨?_, rfl⟩, fun q => ⟨?_, rfl⟩, fun q => ⟨?_, rfl⟩, fun q => ⟨fun z => ⟨?_, rfl⟩, fun z => ⟨?_, ?_, rfl⟩⟩, fun q => ⟨fun z => ⟨?_, rfl⟩, fun z => ⟨?_, ?_, rfl⟩⟩, fun q => ⟨fun z => ⟨?_, rfl⟩, fun z => ⟨?_, rfl⟩⟩, fun q => ⟨fun z => ⟨?_, rfl⟩, fun z => ⟨?_, rfl⟩⟩, fun q => ⟨fun z => ⟨?_, rfl⟩, fun z => ⟨?_, rfl⟩⟩, trivial⟩
  · rw [q]; simp [rk]
  · rw [q]; simp [rk]
  · rw [q]; simp [rk]
  · rw [lCmp_eq] at z; rw [q, z]; simp [rk]
  · rw [lCmp_eq] at z; exact z
  · rw [lCmp_eq] at z; rw [q]; simp [rk, z]
  · rw [lCmp_eq] at z; rw [q, z]; simp [rk]
  · rw [lCmp_eq] at z; exact z
  · rw [lCmp_eq] at z; rw [q]; simp [rk, z]
  · rw [lCmp_ge] at z; rw [q]; simp [rk]; omega
  · rw [lCmp_ge] at z; rw [q]; simp [rk]; omega
  · rw [lCmp_le] at z; rw [q]; simp [rk]; omega
  · rw [lCmp_le] at z; rw [q]; simp [rk]; omega
  · rw [lCmp_eq] at z
    rw [rk, if_neg (by omega), if_neg (by omega), if_neg (by omega), if_neg (by omega), if_neg (by omega), if_neg (by omega), if_neg (by omega), if_pos z]
  · rw [lCmp_eq] at z
    rw [rk, if_neg (by omega), if_neg (by omega), if_neg (by omega), if_neg (by omega), if_neg (by omega), if_neg (by omega), if_neg (by omega), if_neg z]
section HX
variable {Ln : Int} {d : Nat} {σ : AS} {c h a e v w : Int} {Q : Option AV → AS → Prop}
theorem hx_num (hc : 0 ≤ c ∧ c < 240) (he : σ 34 c = e) (hae : a < e) (ha : 0 ≤ a ∧ a < 3200) (hh : 0 ≤ h ∧ h < 40) (hv : 0 ≤ v ∧ v < 100000000) (hK : σ 35 a = 16 * v + 0)
    (k : am_E Ln d 52 9 [vR 24, vI c, vI (h + 1), vI (a + 1), vU, vU, vU] [] (am_up σ 37 h v) Q) : am_E Ln d 52 9 [vR 24, vI c, vI h, vI a, vU, vU, vU] [] σ Q := by
  refine vl_X7_holds_9 _ _ _ _ ⟨hc, fun q => absurd q (by omega), fun _ => ⟨fun q => absurd q (by omega), fun _ => ⟨ha, ha, ?_⟩⟩⟩
  rw [hK, cw_what hv (by omega), cw_value hv (by omega), w32_id (x := h + 1) (by omega) (by omega)]
  refine ⟨fun _ => ⟨fun _ => ⟨hh, vl_X7_holds_250 _ _ _ _ ?_⟩, fun q => absurd rfl q⟩, fun q => absurd rfl q⟩
  rw [w32_id (by omega) (by omega)]
  exact k
theorem hx_let (hc : 0 ≤ c ∧ c < 240) (he : σ 34 c = e) (hae : a < e) (ha : 0 ≤ a ∧ a < 3200) (hh : 0 ≤ h ∧ h < 40) (hv : 0 ≤ v ∧ v < 8) (hK : σ 35 a = 16 * v + 1)
    (k : am_E Ln d 52 9 [vR 24, vI c, vI (h + 1), vI (a + 1), vU, vU, vU] [] (am_up σ 37 h (σ 38 v)) Q) : am_E Ln d 52 9 [vR 24, vI c, vI h, vI a, vU, vU, vU] [] σ Q := by
  refine vl_X7_holds_9 _ _ _ _ ⟨hc, fun q => absurd q (by omega), fun _ => ⟨fun q => absurd q (by omega), fun _ => ⟨ha, ha, ?_⟩⟩⟩
  rw [hK, cw_what (by omega) (by omega), cw_value (by omega) (by omega), w32_id (x := h + 1) (by omega) (by omega)]
  refine ⟨fun q => absurd q (by decide), fun _ => ⟨fun _ => ⟨fun q => absurd q (by decide), fun _ => ⟨hv, hh, vl_X7_holds_250 _ _ _ _ ?_⟩⟩, fun q => absurd rfl q⟩⟩
  rw [w32_id (by omega) (by omega)]
  exact k
theorem hx_not (hc : 0 ≤ c ∧ c < 240) (he : σ 34 c = e) (hae : a < e) (ha : 0 ≤ a ∧ a < 3200) (hh : 0 < h ∧ h < 40) (hK : σ 35 a = 16 * 0 + 2)
    (k : am_E Ln d 52 9 [vR 24, vI c, vI h, vI (a + 1), vU, vU, vU] [] (am_up σ 37 (h - 1) (w64 (1 - σ 37 (h - 1)))) Q) : am_E Ln d 52 9 [vR 24, vI c, vI h, vI a, vU, vU, vU] [] σ Q := by
  refine vl_X7_holds_9 _ _ _ _ ⟨hc, fun q => absurd q (by omega), fun _ => ⟨fun q => absurd q (by omega), fun _ => ⟨ha, ha, ?_⟩⟩⟩
  rw [hK, cw_what (by omega) (by omega), cw_value (by omega) (by omega), w32_id (x := h - 1) (by omega) (by omega)]
  refine ⟨fun q => absurd q (by decide), fun _ => ⟨fun q => absurd q (by decide), fun _ => ⟨fun q => absurd q (by omega), fun _ => ⟨fun _ => ⟨⟨by omega, by omega⟩, ⟨by omega, by omega⟩, vl_X7_holds_250 _ _ _ _ ?_⟩, fun q => absurd rfl q⟩⟩⟩⟩
  rw [w32_id (by omega) (by omega)]
  exact k
/-- & : the first part decides if it doesn't hold -/
theorem hx_and (hc : 0 ≤ c ∧ c < 240) (he : σ 34 c = e) (hae : a < e) (ha : 0 ≤ a ∧ a < 3200) (hh : 0 < h ∧ h < 40) (hv : a < v ∧ v ≤ 3200) (hK : σ 35 a = 16 * v + 3)
    (k1 : σ 37 (h - 1) = 0 → am_E Ln d 52 9 [vR 24, vI c, vI h, vI v, vU, vU, vU] [] σ Q) (k2 : σ 37 (h - 1) ≠ 0 → am_E Ln d 52 9 [vR 24, vI c, vI (h - 1), vI (a + 1), vU, vU, vU] [] σ Q) : am_E Ln d 52 9 [vR 24, vI c, vI h, vI a, vU, vU, vU] [] σ Q := by
  refine vl_X7_holds_9 _ _ _ _ ⟨hc, fun q => absurd q (by omega), fun _ => ⟨fun q => absurd q (by omega), fun _ => ⟨ha, ha, ?_⟩⟩⟩
  rw [hK, cw_what (by omega) (by omega), cw_value (by omega) (by omega), w32_id (x := h - 1) (by omega) (by omega), w32_id (x := v - 1) (by omega) (by omega), w32_id (x := h + -1) (by omega) (by omega), show max a (v - 1) = v - 1 by omega, show h + -1 = h - 1 by omega]
  refine ⟨fun q => absurd q (by decide), fun _ => ⟨fun q => absurd q (by decide), fun _ => ⟨fun q => absurd q (by omega), fun _ => ⟨fun q => absurd q (by decide), fun _ => ⟨fun q => absurd q (by omega), fun _ => ⟨fun _ => ⟨⟨by omega, by omega⟩, fun z => ⟨fun q => absurd q (by decide), fun _ => ⟨fun _ => vl_X7_holds_250 _ _ _ _ ?_, fun q => absurd rfl q⟩⟩, fun z => ⟨fun q => absurd q (by decide), fun _ => ⟨fun q => absurd q (by decide), fun _ => vl_X7_holds_250 _ _ _ _ ?_⟩⟩⟩, fun q => absurd rfl q⟩⟩⟩⟩⟩⟩
  · rw [w32_id (by omega) (by omega), show v - 1 + 1 = v by omega]
    exact k1 (lCmp_eq.mp z)
  · rw [w32_id (by omega) (by omega)]
    exact k2 (fun y => z (lCmp_eq.mpr y))
theorem hx_or (hc : 0 ≤ c ∧ c < 240) (he : σ 34 c = e) (hae : a < e) (ha : 0 ≤ a ∧ a < 3200) (hh : 0 < h ∧ h < 40) (hv : a < v ∧ v ≤ 3200) (hK : σ 35 a = 16 * v + 4)
    (k1 : σ 37 (h - 1) ≠ 0 → am_E Ln d 52 9 [vR 24, vI c, vI h, vI v, vU, vU, vU] [] σ Q) (k2 : σ 37 (h - 1) = 0 → am_E Ln d 52 9 [vR 24, vI c, vI (h - 1), vI (a + 1), vU, vU, vU] [] σ Q) : am_E Ln d 52 9 [vR 24, vI c, vI h, vI a, vU, vU, vU] [] σ Q := by
  refine vl_X7_holds_9 _ _ _ _ ⟨hc, fun q => absurd q (by omega), fun _ => ⟨fun q => absurd q (by omega), fun _ => ⟨ha, ha, ?_⟩⟩⟩
  rw [hK, cw_what (by omega) (by omega), cw_value (by omega) (by omega), w32_id (x := h - 1) (by omega) (by omega), w32_id (x := v - 1) (by omega) (by omega), w32_id (x := h + -1) (by omega) (by omega), show max a (v - 1) = v - 1 by omega, show h + -1 = h - 1 by omega]
  refine ⟨fun q => absurd q (by decide), fun _ => ⟨fun q => absurd q (by decide), fun _ => ⟨fun q => absurd q (by omega), fun _ => ⟨fun q => absurd q (by decide), fun _ => ⟨fun q => absurd q (by omega), fun _ => ⟨fun q => absurd q (by decide), fun _ => ⟨fun _ => ⟨⟨by omega, by omega⟩, fun z => ⟨fun _ => ⟨fun q => absurd q (by decide), fun _ => vl_X7_holds_250 _ _ _ _ ?_⟩, fun q => absurd rfl q⟩, fun z => ⟨fun _ => ⟨fun _ => vl_X7_holds_250 _ _ _ _ ?_, fun q => absurd rfl q⟩, fun q => absurd rfl q⟩⟩, fun q => absurd rfl q⟩⟩⟩⟩⟩⟩⟩
  · rw [w32_id (by omega) (by omega)]
    exact k2 (lCmp_eq.mp z)
  · rw [w32_id (by omega) (by omega), show v - 1 + 1 = v by omega]
    exact k1 (fun y => z (lCmp_eq.mpr y))
theorem hx_bin (hc : 0 ≤ c ∧ c < 240) (he : σ 34 c = e) (hae : a < e) (ha : 0 ≤ a ∧ a < 3200) (hh : 1 < h ∧ h < 40) (hw : 5 ≤ w ∧ w ≤ 12) (hK : σ 35 a = 16 * 0 + w)
    (k1 : σ 37 (h - 1) = 0 ∧ (w = 8 ∨ w = 9) → am_b 0 ∧ Q (some (vI 0)) σ) (k2 : ¬ (σ 37 (h - 1) = 0 ∧ (w = 8 ∨ w = 9)) → am_E Ln (d + 1) 52 9 [vR 24, vI c, vI (h - 1), vI (a + 1), vU, vU, vU] [] (am_up σ 37 (h - 2) (rk w (σ 37 (h - 2)) (σ 37 (h - 1)))) Q) : am_E Ln (d + 1) 52 9 [vR 24, vI c, vI h, vI a, vU, vU, vU] [] σ Q := by
  refine vl_X7_holds_9 _ _ _ _ ⟨hc, fun q => absurd q (by omega), fun _ => ⟨fun q => absurd q (by omega), fun _ => ⟨ha, ha, ?_⟩⟩⟩
  rw [hK, cw_what (by omega) (by omega), cw_value (by omega) (by omega), w32_id (x := h + -1) (by omega) (by omega), w32_id (x := h + -1 - 1) (by omega) (by omega), show h + -1 = h - 1 by omega, show h - 1 - 1 = h - 2 by omega]
  have fin : ¬ (σ 37 (h - 1) = 0 ∧ (w = 8 ∨ w = 9)) → (0 ≤ h - 2 ∧ h - 2 < 40) ∧ ((0 ≤ h - 1 ∧ h - 1 < 40) ∧ (∃ T : Option AV → AS → Prop, am_M Ln (d + 1) 53 [vI w, vL (σ 37 (h - 2)), vL (σ 37 (h - 1))] σ T ∧ ∀ (r2 : Int) s1, T (some (vL r2)) s1 →
      (0 ≤ h - 2 ∧ h - 2 < 40) ∧ (am_E Ln (d + 1) 52 250 [vR 24, vI c, vI (h - 1), vI a, vU, vU, vU] [] (am_up s1 37 (h - 2) r2) Q))) := by
    intro hn
    refine ⟨⟨by omega, by omega⟩, ⟨by omega, by omega⟩, cL sp_reckon ?_⟩
    rintro r s1 ⟨rfl, rfl⟩
    refine ⟨⟨by omega, by omega⟩, vl_X7_holds_250 _ _ _ _ ?_⟩
    rw [w32_id (by omega) (by omega)]
    exact k2 hn
  refine ⟨fun q => absurd q (by omega), fun _ => ⟨fun q => absurd q (by omega), fun _ => ⟨fun q => absurd q (by omega), fun _ => ⟨fun q => absurd q (by omega), fun _ => ⟨fun q => absurd q (by omega), fun _ => ⟨fun q => absurd q (by omega), fun _ => ⟨fun q => absurd q (by omega), fun _ => ⟨fun q => absurd q (by omega), fun _ => ⟨⟨by omega, by omega⟩, fun z => ⟨fun q => k1 ⟨lCmp_eq.mp z, Or.inl q⟩, fun q8 => ⟨fun q => k1 ⟨lCmp_eq.mp z, Or.inr q⟩, fun q9 => fin (fun y => by rcases y.2 with u | u; exact q8 u; exact q9 u)⟩⟩, fun z => fin (fun y => z (lCmp_eq.mpr y.1))⟩⟩⟩⟩⟩⟩⟩⟩⟩
theorem hx_end (hc : 0 ≤ c ∧ c < 240) (he : σ 34 c ≤ a) (k1 : σ 37 0 = 0 → am_b 0 ∧ Q (some (vI 0)) σ) (k2 : σ 37 0 ≠ 0 → am_b 1 ∧ Q (some (vI 1)) σ) : am_E Ln d 52 9 [vR 24, vI c, vI h, vI a, vU, vU, vU] [] σ Q :=
  vl_X7_holds_9 _ _ _ _ ⟨hc, fun _ => ⟨⟨by omega, by omega⟩, fun z => k1 (lCmp_eq.mp z), fun z => k2 (fun y => z (lCmp_eq.mpr y))⟩, fun q => absurd he q⟩
end HX
