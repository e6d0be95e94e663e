/-! taking out of a purse by a way -/
/-- parts as they are kept: none empty, none beside another one of the same person -/
def clean (l : MP) : Prop := ∀ C : MP → Prop, C [] → (∀ q : Int × Int, 0 < q.2 → C [q]) → (∀ (a : MP) (z q : Int × Int), C (a ++ [z]) → z.1 ≠ q.1 → 0 < q.2 → C (a ++ [z] ++ [q])) → C l
theorem clean_nil : clean [] := fun _ h _ _ => h
theorem clean_one {q : Int × Int} (h : 0 < q.2) : clean [q] := fun _ _ k _ => k q h
theorem clean_snoc {a : MP} {z q : Int × Int} (h : clean (a ++ [z])) (h2 : z.1 ≠ q.1) (h3 : 0 < q.2) : clean (a ++ [z] ++ [q]) := fun C k0 k1 k2 => k2 a z q (h C k0 k1 k2) h2 h3
theorem clean_fix {l : MP} (h : clean l) : layAll [] l = l := by
  refine h (fun l => layAll [] l = l) rfl (fun q hq => ?_) (fun a z q ih h2 h3 => ?_)
  · rw [layAll_cons, lay, if_neg (by omega)]; rfl
  · rw [layAll_app, ih, layAll_cons, lay, if_neg (by omega), layR_app, if_neg h2, List.append_assoc]
    rfl
theorem clean_inv {l : MP} (h : clean l) : l = [] ∨ (∃ q, l = [q] ∧ 0 < q.2) ∨ ∃ a z q, l = a ++ [z] ++ [q] ∧ clean (a ++ [z]) ∧ z.1 ≠ q.1 ∧ 0 < q.2 := by
  have := h (fun l => clean l ∧ (l = [] ∨ (∃ q, l = [q] ∧ 0 < q.2) ∨ ∃ a z q, l = a ++ [z] ++ [q] ∧ clean (a ++ [z]) ∧ z.1 ≠ q.1 ∧ 0 < q.2)) ⟨clean_nil, Or.inl rfl⟩ (fun q hq => ⟨clean_one hq, Or.inr (Or.inl ⟨q, rfl, hq⟩)⟩)
    (fun a z q ih h2 h3 => ⟨clean_snoc ih.1 h2 h3, Or.inr (Or.inr ⟨a, z, q, rfl, ih.1, h2, h3⟩)⟩)
  exact this.2
theorem clean_lay {l : MP} {o s : Int} (h : clean l) : clean (lay l o s) := by
  unfold lay
  split
  · exact h
  · rename_i hs
    rcases clean_inv h with e | ⟨q, e, hq⟩ | ⟨a, z, q, e, h1, h2, h3⟩
    · rw [e]; exact clean_one (by show 0 < s; omega)
    · rw [e]
      show clean (layR ([] ++ [q]) o s)
      rw [layR_app]
      split
      · exact clean_one (by show 0 < q.2 + s; omega)
      · rename_i hn
        exact clean_snoc (a := []) (clean_one hq) hn (by show 0 < s; omega)
    · rw [e, layR_app]
      split
      · exact clean_snoc h1 h2 (by show 0 < q.2 + s; omega)
      · rename_i hn
        have := clean_snoc (q := (o, s)) (clean_snoc h1 h2 h3) hn (by show 0 < s; omega)
        rw [List.append_assoc] at this
        exact this
theorem clean_layAll : ∀ {r l : MP}, clean l → clean (layAll l r)
  | [], l, h => h
  | q :: r, l, h => by rw [layAll_cons]; exact clean_layAll (clean_lay h)
theorem layAll_nz : ∀ {r l : MP}, (layAll l r).length ≤ l.length + nz r
  | [], l => by simp [layAll_nil, nz]
  | (o, m) :: r, l => by
    rw [layAll_cons, nz_c]
    have h1 := layAll_nz (r := r) (l := lay l o m)
    by_cases h : 0 < m
    · rw [if_pos h]
      have := lay_len l o m
      dsimp only at *
      omega
    · have e : lay l o m = l := by rw [lay, if_pos (by omega)]
      rw [if_neg h]
      dsimp only
      rw [e] at h1 ⊢
      omega
theorem pq_congr {s : Int} {w w' : Int → Int} {n : Nat} (h : ∀ j : Int, 0 ≤ j → j < n → w j = w' j) {i : Int} (h0 : 0 ≤ i) (h1 : i < n) : pq s w n i = pq s w' n i := by
  unfold pq
  rw [sm_congr h, h i h0 h1, cp_congr (fun j a b => h j a (by omega)), sm_congr (f := fun j => s * w j / sm w' n) (g := fun j => s * w' j / sm w' n) (fun j a b => by rw [h j a b])]
theorem gq_congr {q q' : Int → Int} {l : MP} : ∀ {k : Nat}, (∀ j : Int, 0 ≤ j → j < k → q j = q' j) → gq q l k = gq q' l k
  | 0, _ => rfl
  | k + 1, h => by rw [gq, gq, gq_congr (fun j a b => h j a (by omega)), h k (by omega) (by omega)]
theorem nf_map {f : Int → Bool} : ∀ {a b : MP}, a.map Prod.fst = b.map Prod.fst → nf f a = nf f b
  | [], [], _ => rfl
  | [], _ :: _, h => by cases h
  | _ :: _, [], h => by cases h
  | x :: a, y :: b, h => by
    rw [List.map_cons, List.map_cons] at h
    obtain ⟨h1, h2⟩ := List.cons.inj h
    rw [nf_cons, nf_cons, nf_map h2, h1]
theorem nf_two {f g : Int → Bool} : ∀ {l : MP}, (∀ x, g x = !f x) → nf f l + nf g l = l.length
  | [], _ => rfl
  | q :: r, h => by
    have := nf_two (l := r) h
    rw [nf_cons, nf_cons, h, List.length_cons]
    cases f q.1 <;> simp <;> omega
theorem nf_le {f : Int → Bool} {l : MP} : nf f l ≤ l.length := by
  have := List.length_filter_le (fun q => f q.1) l
  unfold nf
  omega
theorem nf_lt {k : Int} : ∀ {l : MP}, nf (fun x => decide (x < k)) l + nf (fun x => decide (x = k)) l = nf (fun x => decide (x < k + 1)) l
  | [] => rfl
  | q :: r => by
    have := nf_lt (k := k) (l := r)
    rw [nf_cons, nf_cons, nf_cons]
    simp only [decide_eq_true_eq]
    split <;> split <;> split <;> omega
theorem rl_flen {α : Type} {f g : Int → α} {n : Int} {c : α → Bool} (h : ∀ i : Int, 0 ≤ i → i < n → f i = g i) : ((rl n f).filter c).length = ((rl n g).filter c).length := by rw [rl_congr h]
theorem xp_len {σ : AS} {p : Int} (h : 0 ≤ σ 41 3) : ((xp σ p).length : Int) ≤ σ 41 3 := by
  unfold xp pj
  rw [List.length_map]
  have := List.length_filter_le (fun q : Int × Int × Int => decide (q.1 = p)) (xl σ)
  unfold xl at *
  rw [rl_len] at this
  omega
theorem xp_other {σ σ' : AS} {p' : Int} (h1 : σ' 41 3 = σ 41 3) (h2 : σ' 42 = σ 42) (h3 : σ' 43 = σ 43) (h4 : ∀ j : Int, 0 ≤ j → σ 42 j = p' → σ' 44 j = σ 44 j) : xp σ' p' = xp σ p' := by
  have key : ∀ m : Nat, pj p' (rl (m : Int) (fun i => (σ 42 i, σ 43 i, σ' 44 i))) = pj p' (rl (m : Int) (fun i => (σ 42 i, σ 43 i, σ 44 i))) := by
    intro m
    induction m with
    | zero => rfl
    | succ m ih =>
      rw [show ((m + 1 : Nat) : Int) = m + 1 by omega, rl_succ _ (by omega), rl_succ _ (by omega), pj_app, pj_app, ih, pj_one, pj_one]
      congr 1
      by_cases e : σ 42 m = p'
      · rw [if_pos e, if_pos e, h4 m (by omega) e]
      · rw [if_neg e, if_neg e]
  unfold xp xl
  rw [h1, h2, h3]
  by_cases hz : 0 ≤ σ 41 3
  · have := key (σ 41 3).toNat
    rw [show ((σ 41 3).toNat : Int) = σ 41 3 by omega] at this
    exact this
  · rw [rl_neg _ (by omega), rl_neg _ (by omega)]
/-- parts taken out of one purse, from a row; not yet tidied -/
def xtk (σ : AS) (p : Int) (l' t : MP) (σ' : AS) : Prop := XT σ' ∧ Fr [44, 48, 49, 50] [(41, 9)] σ σ' ∧ xp σ' p = l' ∧ (∀ p', p' ≠ p → xp σ' p' = xp σ p') ∧ xt σ' = xt σ ++ t ∧ (∀ o : Int, 0 ≤ o → o < 10 → σ' 50 o = σ 50 o + pof o t)
theorem xtk_pass {f : Int → Bool} {σ σ' : AS} {p w r : Int} (h : xpass f σ p 0 w r σ') : r = (gr f w (xp σ p)).2.2 ∧ xtk σ p (gr f w (xp σ p)).1 (gr f w (xp σ p)).2.1 σ' ∧ σ' 41 9 ≤ σ 41 9 + nf f (xp σ p) ∧ 0 ≤ r := by
  obtain ⟨h1, h2, h3, h4, h5, h6, h7, h8, h9⟩ := h
  rw [xp_sf] at h1 h6 h7 h8
  rw [xp_sf, xp_sf] at h4
  exact ⟨h1, ⟨h2, h3, h4, fun p' hp => xp_other (h3.fld 41 3 (by decide)) (h3.cell 42 (by decide)) (h3.cell 43 (by decide)) (fun j a b => h5 j (Or.inr (by rw [b]; exact hp))), h6, h7⟩, h8, h9⟩
theorem xtk_back {σ σ' : AS} {p w : Int} (h : xback σ p (σ 41 3) w σ') : xtk σ p (gr fA w (xp σ p).reverse).1.reverse (gr fA w (xp σ p).reverse).2.1 σ' := by
  obtain ⟨h2, h3, h4, h5, h6, h7⟩ := h
  have e : pj p (xpf σ (σ 41 3)) = xp σ p := rfl
  have e' : pj p (xpf σ' (σ 41 3)) = xp σ' p := by rw [← h3.fld 41 3 (by decide)]; rfl
  rw [e] at h4 h6 h7
  rw [e'] at h4
  exact ⟨h2, h3, by rw [← h4, List.reverse_reverse], fun p' hp => xp_other (h3.fld 41 3 (by decide)) (h3.cell 42 (by decide)) (h3.cell 43 (by decide)) (fun j a b => h5 j (Or.inr (by rw [b]; exact hp))), h6, h7⟩
theorem xtk_tr {σ σ1 σ2 : AS} {p : Int} {l1 l2 t1 t2 : MP} (h1 : xtk σ p l1 t1 σ1) (h2 : xtk σ1 p l2 t2 σ2) : xtk σ p l2 (t1 ++ t2) σ2 := by
  obtain ⟨a1, a2, a3, a4, a5, a6⟩ := h1
  obtain ⟨b1, b2, b3, b4, b5, b6⟩ := h2
  refine ⟨b1, a2.tr b2, b3, fun p' hp => (b4 p' hp).trans (a4 p' hp), by rw [b5, a5, List.append_assoc], fun o x y => ?_⟩
  rw [b6 o x y, a6 o x y, pof_app]
  omega
theorem xt_len {σ : AS} (h : 0 ≤ σ 41 9) : σ 41 9 = (xt σ).length := by
  unfold xt
  rw [rl_len]
  omega
def xout (σ : AS) (p : Int) (r : MP × MP) (σ' : AS) : Prop := XW σ' ∧ Fr [42, 43, 44, 45, 48, 49, 50, 51, 52] [(41, 3), (41, 9)] σ σ' ∧ (∀ p' : Int, 0 ≤ p' → p' < 10 → xp σ' p' = if p' = p then layAll [] r.1 else xp σ p') ∧ xt σ' = r.2 ∧ (∀ o : Int, 0 ≤ o → o < 10 → σ' 50 o = pof o r.2) ∧ σ' 41 9 = r.2.length
/-- behind the passes the row is tidied -/
theorem sp_out {Ln : Int} {d : Nat} {σ σ1 : AS} {p : Int} {r : MP × MP} (hp : 0 ≤ p ∧ p < 10) (hcl : ∀ p' : Int, 0 ≤ p' → p' < 10 → clean (xp σ p') ∧ psum (xp σ p') ≤ 100000000) (ht : xt σ = []) (hg : ∀ o : Int, 0 ≤ o → o < 10 → σ 50 o = 0) (hfr : ∀ q ∈ r.2, 0 ≤ q.2) (hs : psum r.1 + psum r.2 = psum (xp σ p)) (h : xtk σ p r.1 r.2 σ1) :
    am_M Ln (d + 3) 83 [vR 41] σ1 (am_rV (xout σ p r)) := by
  obtain ⟨a1, a2, a3, a4, a5, a6⟩ := h
  have hsn := psum_nn hfr
  refine am_MV (sp_tidy a1 fun p' x y => ?_) ?_
  · by_cases e : p' = p
    · rw [e, a3]; have := (hcl p hp.1 hp.2).2; omega
    · rw [a4 p' e]; have := (hcl p' x y).2; omega
  · rintro s ⟨b1, b2, b3, b4⟩
    have e48 : s 48 = σ1 48 := b2.cell 48 (by decide)
    have e49 : s 49 = σ1 49 := b2.cell 49 (by decide)
    have e9 : s 41 9 = σ1 41 9 := b2.fld 41 9 (by decide)
    have ext : xt s = r.2 := by
      have : xt s = xt σ1 := by unfold xt; rw [e48, e49, e9]
      rw [this, a5, ht]; rfl
    refine ⟨b1, (a2.mo (by decide) (by decide)).tr (b2.mo (by decide) (by decide)), fun p' x y => ?_, ext, fun o x y => ?_, ?_⟩
    · rw [b3 p' x y]
      by_cases e : p' = p
      · rw [if_pos e, e, a3]
      · rw [if_neg e, a4 p' e]; exact clean_fix (hcl p' x y).1
    · have : s 50 = σ1 50 := b2.cell 50 (by decide)
      rw [this, a6 o x y, hg o x y]; omega
    · rw [← ext]; exact xt_len (by rw [e9]; exact a1.2.2)
