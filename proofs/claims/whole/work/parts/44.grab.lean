/-! taking from parts -/
def xt (σ : AS) : MP := rl (σ 41 9) (fun j => (σ 48 j, σ 49 j))
def xgrab (σ : AS) (i w r : Int) (σ' : AS) : Prop := r = w - min w (σ 44 i) ∧ Fr [44, 48, 49, 50] [(41, 9)] σ σ' ∧ σ' 44 = fu (σ 44) i (σ 44 i - min w (σ 44 i)) ∧ σ' 50 = fu (σ 50) (σ 43 i) (σ 50 (σ 43 i) + min w (σ 44 i)) ∧
  xt σ' = xt σ ++ (if 0 < min w (σ 44 i) then [(σ 43 i, min w (σ 44 i))] else []) ∧ σ' 41 9 = σ 41 9 + (if 0 < min w (σ 44 i) then 1 else 0)
theorem xgrab_1 {σ : AS} {i w b : Int} (hb : b = min w (σ 44 i)) (h0 : b = 0) : xgrab σ i w (w - b) (am_up (am_up σ 44 i (σ 44 i - b)) 50 (σ 43 i) (σ 50 (σ 43 i) + b)) := by
  unfold xgrab
  rw [← hb, if_neg (by omega), if_neg (by omega)]
  refine ⟨rfl, Fr.up (Fr.up Fr.rf (Or.inl (by decide))) (Or.inl (by decide)), ?_, ?_, ?_, ?_⟩
  · rw [am_up_ne (by decide), up_zc, zc_eq]
  · rw [up_zc, zc_eq, am_up_ne (by decide)]
  · unfold xt
    rw [List.append_nil]
    have e1 : am_up (am_up σ 44 i (σ 44 i - b)) 50 (σ 43 i) (σ 50 (σ 43 i) + b) 41 = σ 41 := by rw [am_up_ne (by decide), am_up_ne (by decide)]
    have e2 : am_up (am_up σ 44 i (σ 44 i - b)) 50 (σ 43 i) (σ 50 (σ 43 i) + b) 48 = σ 48 := by rw [am_up_ne (by decide), am_up_ne (by decide)]
    have e3 : am_up (am_up σ 44 i (σ 44 i - b)) 50 (σ 43 i) (σ 50 (σ 43 i) + b) 49 = σ 49 := by rw [am_up_ne (by decide), am_up_ne (by decide)]
    rw [e1, e2, e3]
  · rw [am_up_ne (by decide), am_up_ne (by decide)]; omega
theorem xgrab_2 {σ : AS} {i w b : Int} (hb : b = min w (σ 44 i)) (h0 : 0 < b) (ht : 0 ≤ σ 41 9) : xgrab σ i w (w - b) (am_up (am_up (am_up (am_up (am_up σ 44 i (σ 44 i - b)) 50 (σ 43 i) (σ 50 (σ 43 i) + b)) 48 (σ 41 9) (σ 43 i)) 49 (σ 41 9) b) 41 9 (σ 41 9 + 1)) := by
  unfold xgrab
  rw [← hb, if_pos h0, if_pos h0]
  refine ⟨rfl, Fr.up (Fr.up (Fr.up (Fr.up (Fr.up Fr.rf (Or.inl (by decide))) (Or.inl (by decide))) (Or.inl (by decide))) (Or.inl (by decide))) (Or.inr (by decide)), ?_, ?_, ?_, ?_⟩
  · rw [am_up_ne (by decide), am_up_ne (by decide), am_up_ne (by decide), am_up_ne (by decide), up_zc, zc_eq]
  · rw [am_up_ne (by decide), am_up_ne (by decide), am_up_ne (by decide), up_zc, zc_eq, am_up_ne (by decide)]
  · unfold xt
    rw [am_up_eq, if_pos rfl, rl_succ _ ht]
    congr 1
    · refine rl_congr fun j c0 c1 => ?_
      rw [am_up_ne (by decide), am_up_ne (by decide), am_up_eq, if_neg (by omega), am_up_ne (by decide), am_up_ne (by decide), am_up_ne (by decide), am_up_eq, if_neg (by omega), am_up_ne (by decide), am_up_ne (by decide), am_up_ne (by decide)]
    · rw [am_up_ne (by decide), am_up_ne (by decide), am_up_eq, if_pos rfl, am_up_ne (by decide), am_up_eq, if_pos rfl]
  · rw [am_up_eq, if_pos rfl]
theorem sp_grab {Ln : Int} {d : Nat} {σ : AS} {i w : Int} (hi : 0 ≤ i ∧ i < 1010) (ho : 0 ≤ σ 43 i ∧ σ 43 i < 10) (hw : 0 ≤ w ∧ w ≤ 1000000000) (hm : 0 ≤ σ 44 i ∧ σ 44 i ≤ 1000000000) (hg : 0 ≤ σ 50 (σ 43 i) ∧ σ 50 (σ 43 i) ≤ 1000000000) (ht : 0 ≤ σ 41 9 ∧ σ 41 9 < 1010) :
    am_M Ln (d + 1) 82 [vR 41, vI i, vI w] σ (am_rI (xgrab σ i w)) := by
  refine vm_X9_grab σ i w ⟨hi, fun h1 => ⟨hi, hi, hi, hi, ho, ho, fun h2 => ?_, fun h2 => ⟨fun h3 => absurd h3 (by omega), fun _ => ⟨hi, ht, ht, ?_⟩⟩⟩, fun h1 => ⟨hi, hi, hi, ho, ho, fun h2 => ?_, fun h2 => ⟨fun h3 => absurd h3 (by omega), fun _ => ⟨hi, ht, ht, ?_⟩⟩⟩⟩
  · rw [w32_id (x := w - σ 44 i) (by omega) (by omega), w32_id (x := σ 44 i - σ 44 i) (by omega) (by omega), w32_id (x := σ 50 (σ 43 i) + σ 44 i) (by omega) (by omega)]
    exact xgrab_1 (b := σ 44 i) (by omega) (by omega)
  · rw [w32_id (x := w - σ 44 i) (by omega) (by omega), w32_id (x := σ 44 i - σ 44 i) (by omega) (by omega), w32_id (x := σ 50 (σ 43 i) + σ 44 i) (by omega) (by omega), w32_id (x := σ 41 9 + 1) (by omega) (by omega)]
    exact xgrab_2 (b := σ 44 i) (by omega) (by omega) ht.1
  · rw [w32_id (x := w - w) (by omega) (by omega), w32_id (x := σ 44 i - w) (by omega) (by omega), w32_id (x := σ 50 (σ 43 i) + w) (by omega) (by omega)]
    exact xgrab_1 (b := w) (by omega) (by omega)
  · rw [w32_id (x := w - w) (by omega) (by omega), w32_id (x := σ 44 i - w) (by omega) (by omega), w32_id (x := σ 50 (σ 43 i) + w) (by omega) (by omega), w32_id (x := σ 41 9 + 1) (by omega) (by omega)]
    exact xgrab_2 (b := w) (by omega) (by omega) ht.1
/-- taking a sum from parts of persons of a kind, from the first on: what is left of the parts, what is taken, what is still wanted -/
def gr (f : Int → Bool) : Int → MP → MP × MP × Int
  | w, [] => ([], [], w)
  | w, q :: r => if f q.1 = true then ((q.1, q.2 - min w q.2) :: (gr f (w - min w q.2) r).1, (if 0 < min w q.2 then (q.1, min w q.2) :: (gr f (w - min w q.2) r).2.1 else (gr f (w - min w q.2) r).2.1), (gr f (w - min w q.2) r).2.2)
      else (q :: (gr f w r).1, (gr f w r).2.1, (gr f w r).2.2)
theorem gr_z {f : Int → Bool} : ∀ {l : MP}, (∀ q ∈ l, 0 ≤ q.2) → gr f 0 l = (l, [], 0)
  | [], _ => rfl
  | q :: r, h => by
    have h1 := h q List.mem_cons_self
    have ih := gr_z (f := f) (l := r) (fun x hx => h x (List.mem_cons_of_mem _ hx))
    rw [gr, show min 0 q.2 = 0 by omega, show (0 : Int) - 0 = 0 by omega, ih]
    split
    · rw [if_neg (by omega), show q.2 - 0 = q.2 by omega]
    · rfl
theorem gr_c {f : Int → Bool} {w o m : Int} {r : MP} : gr f w ((o, m) :: r) = if f o = true then ((o, m - min w m) :: (gr f (w - min w m) r).1, (if 0 < min w m then (o, min w m) :: (gr f (w - min w m) r).2.1 else (gr f (w - min w m) r).2.1), (gr f (w - min w m) r).2.2)
      else ((o, m) :: (gr f w r).1, (gr f w r).2.1, (gr f w r).2.2) := rfl
theorem pof_c {x o m : Int} {r : MP} : pof x ((o, m) :: r) = (if o = x then m else 0) + pof x r := rfl
/-- how many parts are of the kind -/
def nf (f : Int → Bool) (l : MP) : Int := ((l.filter (fun q => f q.1)).length : Int)
theorem nf_cons {f : Int → Bool} {q : Int × Int} {r : MP} : nf f (q :: r) = nf f r + (if f q.1 = true then 1 else 0) := by
  unfold nf
  rw [List.filter_cons]
  split
  · rename_i h
    simp
  · rename_i h
    simp
theorem nf_nn {f : Int → Bool} {l : MP} : 0 ≤ nf f l := by unfold nf; omega
def xsf (σ : AS) (i : Int) : List (Int × Int × Int) := rl (σ 41 3 - i) (fun j => (σ 42 (i + j), σ 43 (i + j), σ 44 (i + j)))
theorem xsf_cons {σ : AS} {i : Int} (h : i < σ 41 3) : xsf σ i = (σ 42 i, σ 43 i, σ 44 i) :: xsf σ (i + 1) := by
  unfold xsf
  rw [rl_cons _ (by omega), Int.add_zero, show σ 41 3 - i - 1 = σ 41 3 - (i + 1) by omega]
  congr 1
  exact rl_congr fun j _ _ => by rw [show i + (j + 1) = i + 1 + j by omega]
theorem xsf_0 {σ : AS} : xsf σ 0 = xl σ := by
  unfold xsf xl
  rw [show σ 41 3 - 0 = σ 41 3 by omega]
  exact rl_congr fun j _ _ => by rw [Int.zero_add]
theorem xsf_nil {σ : AS} {i : Int} (h : σ 41 3 ≤ i) : xsf σ i = [] := rl_neg _ (by omega)
theorem xsf_congr {σ σ' : AS} {i : Int} (h : ∀ j : Int, i ≤ j → j < σ 41 3 → σ' 44 j = σ 44 j) (h1 : σ' 41 3 = σ 41 3) (h2 : σ' 42 = σ 42) (h3 : σ' 43 = σ 43) : xsf σ' i = xsf σ i := by
  unfold xsf
  rw [h1, h2, h3]
  exact rl_congr fun j a b => by rw [h (i + j) (by omega) (by omega)]
/-- while parts are taken: the row, some of its parts empty -/
def XT (σ : AS) : Prop := (0 ≤ σ 41 3 ∧ σ 41 3 ≤ 1010) ∧ (∀ i : Int, 0 ≤ i → i < σ 41 3 → (0 ≤ σ 42 i ∧ σ 42 i < 10) ∧ (0 ≤ σ 43 i ∧ σ 43 i < 10) ∧ 0 ≤ σ 44 i ∧ σ 44 i ≤ 1000000000) ∧ 0 ≤ σ 41 9
/-- behind a pass over the row from place i: of purse p, of persons of a kind -/
def xpass (f : Int → Bool) (σ : AS) (p i w r : Int) (σ' : AS) : Prop :=
  let x := gr f w (pj p (xsf σ i))
  r = x.2.2 ∧ XT σ' ∧ Fr [44, 48, 49, 50] [(41, 9)] σ σ' ∧ pj p (xsf σ' i) = x.1 ∧ (∀ j : Int, j < i ∨ σ 42 j ≠ p → σ' 44 j = σ 44 j) ∧ xt σ' = xt σ ++ x.2.1 ∧ (∀ o : Int, 0 ≤ o → o < 10 → σ' 50 o = σ 50 o + pof o x.2.1) ∧ σ' 41 9 ≤ σ 41 9 + nf f (pj p (xsf σ i)) ∧ 0 ≤ r
theorem xpass_stop {f : Int → Bool} {σ : AS} {p i w : Int} (h : XT σ) (hi : 0 ≤ i) (hw : 0 ≤ w) (hs : σ 41 3 ≤ i ∨ w ≤ 0) : xpass f σ p i w w σ := by
  have key : gr f w (pj p (xsf σ i)) = (pj p (xsf σ i), [], w) := by
    rcases hs with q | q
    · rw [xsf_nil q]; rfl
    · have e : w = 0 := by omega
      subst e
      refine gr_z fun q hq => ?_
      unfold pj at hq
      obtain ⟨x, hx, rfl⟩ := List.mem_map.mp hq
      obtain ⟨j, c0, c1, c2⟩ := rl_mem.mp (List.mem_filter.mp hx).1
      rw [← c2]
      exact (h.2.1 (i + j) (by omega) (by omega)).2.2.1
  unfold xpass
  rw [key]
  refine ⟨rfl, h, Fr.rf, rfl, fun j _ => rfl, by rw [List.append_nil], fun o _ _ => by simp [pof], ?_, hw⟩
  have := nf_nn (f := f) (l := pj p (xsf σ i))
  omega
theorem xpass_skip {f : Int → Bool} {σ σ' : AS} {p i w r : Int} (hi : i < σ 41 3) (hn : σ 42 i ≠ p ∨ f (σ 43 i) = false) (h : xpass f σ p (i + 1) w r σ') : xpass f σ p i w r σ' := by
  obtain ⟨h1, h2, h3, h4, h5, h6, h7, h8, h9⟩ := h
  have e1 : σ' 41 3 = σ 41 3 := h3.fld 41 3 (by decide)
  have e2 : σ' 42 = σ 42 := h3.cell 42 (by decide)
  have e3 : σ' 43 = σ 43 := h3.cell 43 (by decide)
  have e4 : σ' 44 i = σ 44 i := h5 i (Or.inl (by omega))
  unfold xpass
  rw [xsf_cons hi, xsf_cons (σ := σ') (by omega), pj_cons, pj_cons, e2, e3, e4]
  by_cases hp : σ 42 i = p
  · rw [if_pos hp, if_pos hp]
    have hf : f (σ 43 i) = false := hn.resolve_left (fun q => q hp)
    rw [gr_c, if_neg (by rw [hf]; decide)]
    refine ⟨h1, h2, h3, ?_, fun j hj => h5 j (hj.imp (by omega) id), h6, h7, ?_, h9⟩
    · rw [h4]
    · rw [nf_cons, if_neg (by rw [hf]; decide)]; omega
  · rw [if_neg hp, if_neg hp]
    exact ⟨h1, h2, h3, h4, fun j hj => h5 j (hj.imp (by omega) id), h6, h7, h8, h9⟩
theorem xpass_grab {f : Int → Bool} {σ σ1 σ' : AS} {p i w r1 r : Int} (hT : XT σ) (h0 : 0 ≤ i) (hi : i < σ 41 3) (hw : 0 ≤ w) (hp : σ 42 i = p) (hf : f (σ 43 i) = true) (hg : xgrab σ i w r1 σ1) (h : xpass f σ1 p (i + 1) r1 r σ') : xpass f σ p i w r σ' := by
  obtain ⟨g1, g2, g3, g4, g5, g6⟩ := hg
  obtain ⟨h1, h2, h3, h4, h5, h6, h7, h8, h9⟩ := h
  have e1 : σ1 41 3 = σ 41 3 := g2.fld 41 3 (by decide)
  have e2 : σ1 42 = σ 42 := g2.cell 42 (by decide)
  have e3 : σ1 43 = σ 43 := g2.cell 43 (by decide)
  have d1 : σ' 41 3 = σ 41 3 := by rw [h3.fld 41 3 (by decide), e1]
  have d2 : σ' 42 = σ 42 := by rw [h3.cell 42 (by decide), e2]
  have d3 : σ' 43 = σ 43 := by rw [h3.cell 43 (by decide), e3]
  have d4 : σ' 44 i = σ 44 i - min w (σ 44 i) := by rw [h5 i (Or.inl (by omega)), g3, fu_eq]
  have esf : xsf σ1 (i + 1) = xsf σ (i + 1) := xsf_congr (fun j a b => by rw [g3, fu_ne (by omega)]) e1 e2 e3
  rw [esf, g1] at h1 h4 h6 h7
  rw [esf] at h8
  unfold xpass
  rw [xsf_cons hi, xsf_cons (σ := σ') (by omega), pj_cons, pj_cons, d2, d3, d4, if_pos hp, if_pos hp, gr_c, if_pos hf]
  refine ⟨h1, h2, (g2.tr h3), ?_, fun j hj => ?_, ?_, fun o a b => ?_, ?_, h9⟩
  · rw [h4]
  · have hj2 : j ≠ i := by rintro rfl; rcases hj with q | q; omega; exact q hp
    rw [h5 j (by rw [e2]; exact hj.imp (by omega) id), g3, fu_ne hj2]
  · rw [h6, g5, List.append_assoc]
    congr 1
    split <;> rfl
  · rw [h7 o a b, g4, fu_app]
    by_cases e : o = σ 43 i
    · rw [if_pos e]
      subst e
      split
      · rw [pof_c, if_pos rfl]; omega
      · have := hT.2.1 i h0 hi
        dsimp only
        omega
    · rw [if_neg e]
      split
      · rw [pof_c, if_neg (fun q => e q.symm)]; omega
      · rfl
  · rw [nf_cons, if_pos hf]
    rw [g6] at h8
    split at h8 <;> omega
