/-! taking out by a way, in the model -/
theorem lp_parts3 {Ln : Int} {d : Nat} {p : Int} {n : Nat} {σ0 : AS} {q : Int → Int} {l : MP} (hp : 0 ≤ p ∧ p < 10) (hT : MT σ0) (hn : σ0 82 3 = n) (hn2 : n ≤ 10) (hl : mp σ0 p = l) (hq : ∀ j : Int, 0 ≤ j → j < n → σ0 120 j = q j ∧ 0 ≤ q j ∧ q j ≤ 1000000000) (ht0 : mt σ0 = []) (h54 : σ0 82 54 = 0) :
    ∀ (m k : Nat) (σ : AS), k + m = n → mtk σ0 p (gq q l k).1 (gq q l k).2 (nf (fun x => decide (x < (k : Int))) l) σ →
    am_E Ln (d + 3) 186 121 [vR 82, vI p, vU, vU, vU, vI (k : Int), vU] [] σ (am_rV (mtk σ0 p (gq q l n).1 (gq q l n).2 (l.length : Int))) := by
  have hT0 := hT p hp.1 hp.2
  rw [hl] at hT0
  have hnn : ∀ x ∈ l, 0 ≤ x.2 := fun x hx => (hT0.2.1 x hx).2
  have hfsm : ∀ {k : Int}, nf (fun x => decide (x < k)) l ≤ l.length := nf_le
  intro m
  induction m with
  | zero =>
    intro k σ hk hm
    have hf := hm.1
    obtain rfl : k = n := by omega
    have e3 : σ 82 3 = k := by rw [hf.fld 82 3 (by decide), hn]
    obtain ⟨m1, m2, m3, m4, m5, m6⟩ := hm
    exact vl_X12_takesByParts_121 _ _ _ ⟨fun _ => ⟨m1, m2, m3, m4, m5, by have := hfsm (k := (k : Int)); omega⟩, fun h => absurd (by omega) h⟩
  | succ m ih =>
    intro k σ hk hm
    have hf := hm.1
    have e3 : σ 82 3 = n := by rw [hf.fld 82 3 (by decide), hn]
    have hqk := hq k (by omega) (by omega)
    have htk := tk_gq (q := q) hnn (k := k) (fun o a b => (hq o a (by omega)).2.1)
    obtain ⟨t1, t2, t3, t4, t5, t6, t7⟩ := htk
    have hmm := hm
    obtain ⟨m1, m2, m3, m4, m5, m6⟩ := hm
    have persons : ∀ x ∈ (gq q l k).1, (0 ≤ x.1 ∧ x.1 < 10) ∧ 0 ≤ x.2 := by
      intro x hx
      have h1 : x.1 ∈ l.map Prod.fst := by rw [← t6]; exact List.mem_map.mpr ⟨x, hx, rfl⟩
      obtain ⟨y, hy, e⟩ := List.mem_map.mp h1
      rw [← e]
      exact ⟨(hT0.2.1 y hy).1, t1 x hx⟩
    have s2nn : ∀ x ∈ (gq q l k).2, 0 ≤ x.2 := fun x hx => by have := (t2 x hx).1; omega
    have ps2 := psum_nn s2nn
    have ps1 := psum_nn t1
    have eT : MT σ := MT_mtk hT hmm persons (by omega)
    have emt : psum (mt σ) = psum (gq q l k).2 := by
      rw [m4, ht0, layAll_psum s2nn]
      show 0 + _ = _
      omega
    have hmn : ∀ x ∈ mt σ, 0 ≤ x.2 := by
      rw [m4, ht0]
      have : ∀ (r a : MP), (∀ x ∈ a, 0 ≤ x.2) → ∀ x ∈ layAll a r, 0 ≤ x.2 := by
        intro r
        induction r with
        | nil => intro a h; exact h
        | cons y r ih => intro a h; rw [layAll_cons]; exact ih _ (lay_nn h)
      exact this _ _ (fun x hx => by cases hx)
    have e120 : σ 120 = σ0 120 := hf.cell 120 (by decide)
    have enf : nf (fI (k : Int)) (gq q l k).1 = nf (fun x => decide (x = (k : Int))) l := nf_map t6
    have hlt := nf_lt (k := (k : Int)) (l := l)
    have hle := hfsm (k := (k : Int) + 1)
    have hll : (l.length : Int) ≤ 1390 := by rw [← hl, mp_len (hT p hp.1 hp.2).1.1]; exact (hT p hp.1 hp.2).1.2
    refine vl_X12_takesByParts_121 _ _ _ ⟨fun h => absurd h (by omega), fun _ => ⟨⟨by omega, by omega⟩, ?_⟩⟩
    rw [e120, hqk.1]
    refine cI (sp_mtakesOf (f := fI (k : Int)) hp (Or.inl ⟨rfl, rfl⟩) eT ⟨hqk.2.1, hqk.2.2⟩ hmn (by omega) ⟨m5, by rw [m2, enf]; omega⟩) ?_
    rintro r s ⟨-, y1, y2, y3, y4, y5, y6⟩
    rw [m2] at y2 y4 y6
    rw [enf] at y6
    rw [w32_id (x := (k : Int) + 1) (by omega) (by omega)]
    have key := ih (k + 1) s (by omega) ⟨m1.tr y1, ?_, fun p' a b e => ?_, ?_, y5, ?_⟩
    · exact key
    · rw [y2]; rfl
    · rw [y3 p' a b e, m3 p' a b e]
    · rw [y4, m4, ← layAll_app]; rfl
    · rw [show ((k + 1 : Nat) : Int) = (k : Int) + 1 by omega]; omega
theorem sp_takesByParts {Ln : Int} {d : Nat} {p s : Int} {n : Nat} {σ : AS} (hp : 0 ≤ p ∧ p < 10) (hT : MT σ) (hn : σ 82 3 = n) (hn2 : n ≤ 10) (hpn : ∀ q ∈ mp σ p, q.1 < n) (hs : 0 < s ∧ s ≤ 1000000) (hss : s ≤ psum (mp σ p)) (h54 : σ 82 54 = 0) :
    am_M Ln (d + 4) 186 [vR 82, vI p, vI s] σ (am_rV fun σ' => ∃ σ1, Fr [120] [] σ σ1 ∧ mtk σ1 p (takeW 2 s 0 (mp σ p)).1 (takeW 2 s 0 (mp σ p)).2 ((mp σ p).length : Int) σ') := by
  obtain ⟨h1, h2, h3⟩ := hT p hp.1 hp.2
  obtain ⟨l, hl⟩ : ∃ l, l = mp σ p := ⟨_, rfl⟩
  have hnn : ∀ x ∈ l, 0 ≤ x.2 := fun x hx => (h2 x (by rw [← hl]; exact hx)).2
  have hsm : sm (fun o => pof o l) n = psum l := pof_sm (fun q hq => ⟨(h2 q (by rw [← hl]; exact hq)).1.1, hpn q (by rw [← hl]; exact hq)⟩)
  have hw0 : ∀ i : Int, n ≤ i → i < (10 : Nat) → pof i l = 0 := fun i a b => pof_zero (fun q hq => by have := hpn q (by rw [← hl]; exact hq); omega)
  have hwn : ∀ i : Int, 0 ≤ i → i < n → 0 ≤ pof i l := fun i _ _ => (pof_nn hnn).1
  have hlsum : 0 < psum l := by rw [hl]; omega
  have mt0 : ∀ τ : AS, τ 82 54 = 0 → mt τ = [] := fun τ h => by unfold mt; rw [h]; rfl
  have hss2 : s ≤ sm (fun o => pof o l) n := by rw [hsm, hl]; exact hss
  have hpos : 0 < sm (fun o => pof o l) n := by rw [hsm]; exact hlsum
  have htw : takeW 2 s 0 l = gq (pq s (fun o => pof o l) n) l n := by
    rw [takeW, if_neg (by decide), if_pos rfl]
    have e : ∀ k : Nat, gq (pq s (fun o => pof o l) 10) l k = gq (pq s (fun o => pof o l) n) l k := fun k => gq_congr (fun j a b => pq_short hn2 hw0 j)
    rw [e]
    refine gq_z hnn hn2 (fun o a b => (pq_tot (by omega) hpos hwn).2 o a b) (fun o a b => pq_zero (hw0 o a b))
  have fin : ∀ σ', Fr [120] [] σ σ' → (∀ j : Int, 0 ≤ j → j < n → σ' 120 j = pq s (fun o => pof o l) n j) → am_E Ln (d + 3) 186 121 [vR 82, vI p, vU, vU, vU, vI 0, vU] [] σ' (am_rV fun σ'' => ∃ σ1, Fr [120] [] σ σ1 ∧ mtk σ1 p (takeW 2 s 0 l).1 (takeW 2 s 0 l).2 (l.length : Int) σ'') := by
    intro σ' hf hg
    have eT : MT σ' := MT_eq hT (hf.cell 113 (by decide)) (hf.cell 114 (by decide)) (hf.cell 115 (by decide))
    have emp : mp σ' p = l := by rw [hl]; exact mp_eq (hf.cell 113 (by decide)) (hf.cell 114 (by decide)) (hf.cell 115 (by decide))
    have e54 : σ' 82 54 = 0 := by rw [hf.fld 82 54 (by decide)]; exact h54
    have hpt := pq_tot (s := s) (by omega) hpos hwn
    refine am_EV (lp_parts3 (n := n) (q := pq s (fun o => pof o l) n) (l := l) hp eT (by rw [hf.fld 82 3 (by decide)]; exact hn) hn2 emp (fun j a b => ⟨hg j a b, hpt.2 j a b, ?_⟩) (mt0 _ e54) e54 n 0 σ' (by omega) ⟨Fr.rf, emp, fun _ _ _ _ => rfl, rfl, by omega, ?_⟩) ?_
    · have := sm_one (f := pq s (fun o => pof o l) n) hpt.2 a b
      omega
    · have := nf_nn (f := fun x => decide (x < ((0 : Nat) : Int))) (l := l); omega
    · intro s1 hx
      refine ⟨σ', hf, ?_⟩
      rw [htw]
      exact hx
  refine vm_X12_takesByParts _ _ _ (cI (sp_allOf hp hT) ?_)
  rintro r s1 ⟨hr, rfl⟩
  rw [← hl] at hr
  have hsm2 : r = sm (fun o => pof o l) n := by rw [hsm]; exact hr
  have hst := lp_parts1 (Ln := Ln) (d := d + 2) (p := p) (s := s) (all := r) (n := n) (σ0 := s1) (Q := am_rV fun σ'' => ∃ σ1, Fr [120] [] s1 σ1 ∧ mtk σ1 p (takeW 2 s 0 l).1 (takeW 2 s 0 l).2 (l.length : Int) σ'') hp hT hn hn2 ⟨by omega, hs.2⟩ (by rw [← hl]; exact hr) (by omega)
    (fun j a b => by
      have := pq_each (s := s) (by omega) hpos hwn a b
      rw [← hsm2] at this
      rw [← hl]
      omega)
    (fun k hk => by
      have := pq_sum (s := s) (by omega) hpos hwn hk
      rw [← hsm2] at this
      rw [← hl]
      exact this)
    (fun τ hf hg => by
      rw [← hl] at hg ⊢
      have hst2 := lp_parts2 (Ln := Ln) (d := d + 2) (p := p) (s := s) (n := n) (σ0 := s1) (w := fun o => pof o l) (Q := am_rV fun σ'' => ∃ σ1, Fr [120] [] s1 σ1 ∧ mtk σ1 p (takeW 2 s 0 l).1 (takeW 2 s 0 l).2 (l.length : Int) σ'') hp hT hn hn2 (by rw [← hl]) ⟨by omega, hs.2⟩ hss2 hpos hwn fin n 0 τ (by omega) hf (fun j a b => by omega) (fun j a b => by rw [hg j a b, hsm2]) (by
          have := pq_sum (s := s) (by omega) hpos hwn (k := n) (Nat.le_refl n)
          rw [cp]; omega)
      rw [cp, Int.sub_zero, ← hsm2] at hst2
      exact hst2)
    n 0 s1 (by omega) Fr.rf (fun j a b => by omega)
  rw [sm, Int.sub_zero] at hst
  rw [← hl]
  exact hst
