/-! playing through one line, by the class -/
def lastF (C : AS) (F : FD) (t : Int) (fo : Int → Int) (i : Int) (m : MS) (σ' : AS) : Prop := σ' 40 13 = (if mfail C i m = true then 1 else 0) ∧ (tkD (C 8 i) = true → σ' 40 10 = wayF C F t fo i (m.1 (C 9 i))) ∧ (mfail C i m = false → ∀ o : Int, 0 ≤ o → o < 10 → σ' 50 o = mgot C F t fo i m o)
theorem lp_playL {Ln : Int} {d : Nat} {C : AS} {F : FD} {t : Int} {fo : Int → Int} {e n : Int} (hF : ruX Ln C F) (hkn : C 19 4 ≤ 100) : ∀ (q : Nat) (σ : AS) (m : MS) (j : Int), RX m σ → MI j m → Fr wkX wkF C σ → σ 40 9 = t → 0 ≤ σ 41 9 → (∀ p : Int, 0 ≤ p → p < 10 → σ 66 p = fo p ∧ -1 ≤ fo p ∧ fo p ≤ 4) → n = min e (σ 40 7) → n ≤ 100 → (∀ x : Int, 0 ≤ x → x < n → lv C (σ 65 x)) → (0 ≤ σ 40 14 ∧ σ 40 14 ≤ j) → 0 ≤ j → (n - j).toNat = q →
    am_E Ln (d + 5) 36 7 [vR 40, vU, vI e, vI j] [] σ (am_rV fun σ' => Fr plX plF σ σ' ∧ (n ≤ j → σ' = σ) ∧ (j < n → lastF C F t fo (σ 65 (n - 1)) (mpl C F t fo (rl (n - 1 - j) (fun x => σ 65 (j + x))) m) σ')) := by
  intro q
  induction q with
  | zero =>
    intro σ m j hr hm hf ht h9 hfo hn hn1 hlv h14 h0 hq
    have fin : Fr plX plF σ σ ∧ (n ≤ j → σ = σ) ∧ (j < n → lastF C F t fo (σ 65 (n - 1)) (mpl C F t fo (rl (n - 1 - j) (fun x => σ 65 (j + x))) m) σ) := ⟨Fr.rf, fun _ => rfl, fun q => absurd q (by omega)⟩
    exact vl_X6_play_7 _ _ _ ⟨fun _ => fin, fun _ => ⟨fun _ => fin, fun h => absurd (by omega) h⟩⟩
  | succ q ih =>
    intro σ m j hr hm hf ht h9 hfo hn hn1 hlv h14 h0 hq
    have hl := hlv j h0 (by omega)
    refine vl_X6_play_7 _ _ _ ⟨fun h => absurd h (by omega), fun _ => ⟨fun h => absurd h (by omega), fun _ => ⟨⟨by omega, by omega⟩, ?_⟩⟩⟩
    refine cV (sp_decide (d := d + 1) (k := j) hr hm h9 hf hl hF ht hfo) ?_
    rintro s1 ⟨d1, d2, d3, d4⟩
    have e65 : s1 65 = σ 65 := d1.cell 65 (by decide)
    rw [e65]
    refine ⟨⟨by omega, by omega⟩, cV (sp_act (k := j) (RX_fr hr d1 (by decide) (by decide) (by decide)) hm (by omega) (hf.tr (d1.mo (by decide) (by decide))) hl hkn (by rw [d1.fld 40 9 (by decide)]; exact ht) d2 d3 d4) ?_⟩
    rintro s2 ⟨a1, a2, a3, a4, a5⟩
    have f2 : Fr plX plF σ s2 := (d1.mo (by decide) (by decide)).tr (a3.mo (by decide) (by decide))
    have e14 : s2 40 14 = σ 40 14 := by rw [a3.fld 40 14 (by decide), d1.fld 40 14 (by decide)]
    have lst1 : lastF C F t fo (σ 65 j) m s2 := ⟨a2, fun h => by rw [a3.fld 40 10 (by decide)]; exact (d2 h).1, a5⟩
    have nx : ∀ s3 : AS, Fr [] [(40, 14)] s2 s3 → s3 40 14 = σ 40 14 + (if mfail C (σ 65 j) m = true then 1 else 0) → am_E Ln (d + 5) 36 7 [vR 40, vU, vI e, vI (w32 (j + 1))] [] s3 (am_rV fun σ' => Fr plX plF σ σ' ∧ (n ≤ j → σ' = σ) ∧ (j < n → lastF C F t fo (σ 65 (n - 1)) (mpl C F t fo (rl (n - 1 - j) (fun x => σ 65 (j + x))) m) σ')) := by
      intro s3 k1 k2
      have f3 : Fr plX plF σ s3 := f2.tr (k1.mo (by decide) (by decide))
      have c65 : s3 65 = σ 65 := f3.cell 65 (by decide)
      rw [w32_id (by omega) (by omega)]
      refine am_EV (ih s3 (mact C F t fo (σ 65 j) m) (j + 1) (RX_fr a1 k1 (by decide) (by decide) (by decide)) (mact_MI hm (by omega) hl) (hf.tr (f3.mo (by decide) (by decide))) (by rw [f3.fld 40 9 (by decide)]; exact ht) (by rw [k1.fld 41 9 (by decide)]; exact a4) (by rw [f3.cell 66 (by decide)]; exact hfo) (by rw [f3.fld 40 7 (by decide)]; exact hn) hn1 (by rw [c65]; exact hlv) (by rw [k2]; split <;> omega) (by omega) (by omega)) ?_
      rintro s ⟨x1, x2, x3⟩
      rw [c65] at x3
      refine ⟨f3.tr x1, fun h => absurd h (by omega), fun _ => ?_⟩
      by_cases hlast : n ≤ j + 1
      · rw [x2 hlast, rl_neg _ (by omega), show n - 1 = j by omega]
        refine ⟨by rw [k1.fld 40 13 (by decide)]; exact lst1.1, fun h => by rw [k1.fld 40 10 (by decide)]; exact lst1.2.1 h, fun h o a b => by rw [k1.cell 50 (by decide)]; exact lst1.2.2 h o a b⟩
      · have el : rl (n - 1 - j) (fun x => σ 65 (j + x)) = σ 65 j :: rl (n - 1 - (j + 1)) (fun x => σ 65 (j + 1 + x)) := by
          rw [rl_cons _ (by omega), Int.add_zero, show n - 1 - j - 1 = n - 1 - (j + 1) by omega]
          congr 1
          exact rl_congr fun x _ _ => by rw [show j + (x + 1) = j + 1 + x by omega]
        rw [el]
        exact x3 (by omega)
    refine ⟨fun h => nx s2 Fr.rf ?_, fun h => nx _ (Fr.up Fr.rf (Or.inr (by decide))) ?_⟩
    · rw [e14]; rw [a2] at h
      split at h
      · exact absurd h (by decide)
      · rename_i hz; rw [if_neg hz]; omega
    · rw [a2] at h
      rw [am_up_eq, if_pos rfl, w32_id (by omega) (by omega), e14]
      split at h
      · rename_i hz; rw [if_pos hz]
      · exact absurd rfl h
theorem takeW_rl {f : Int → Int} {i : Int} : ∀ {n k : Nat}, k < n → f k = i → (∀ j : Int, 0 ≤ j → j < k → f j ≠ i) → (rl n f).takeWhile (fun x => !decide (x = i)) = rl k f := by
  intro n k hk hf hj
  have e : rl n f = rl k f ++ f k :: rl ((n : Int) - k - 1) (fun x => f (k + 1 + x)) := rl_at f (by omega) (by omega)
  rw [e, List.takeWhile_append_of_pos, List.takeWhile_cons, hf]
  · simp
  · intro x hx
    obtain ⟨j, c0, c1, rfl⟩ := rl_mem.mp hx
    simpa using hj j c0 c1
def preL (C : AS) (t i : Int) : List Int := (lst C 3999 t (C 7 11)).takeWhile (fun x => !decide (x = i))
def mPre (C : AS) (F : FD) (t i : Int) : MS := mpl C F t fo0 (preL C t i) m0
theorem lp_thr {Ln : Int} {d : Nat} {σ : AS} {i k0 n : Int} {Q : Option AV → AS → Prop} (hn : σ 40 7 = n) (hn1 : n ≤ 100) (h0 : 0 ≤ k0 ∧ k0 < n) (h1 : ∀ k : Int, 0 ≤ k → k < n → (σ 65 k = i ↔ k = k0)) (hend : ∃ T : Option AV → AS → Prop, am_M Ln d 36 [vR 40, vI 0, vI (k0 + 1)] σ T ∧ ∀ s1, T none s1 → am_b 1 ∧ Q (some (vI 1)) s1) :
    ∀ (q : Nat) (k : Int), 0 ≤ k → k ≤ n → (n - k).toNat = q → am_E Ln d 33 34 [vR 40, vI i, vU, vI (if k0 < k then k0 + 1 else 0), vI k] [] σ Q := by
  intro q
  induction q with
  | zero =>
    intro k a b hq
    refine vl_X6_playThrough_34 _ _ _ _ ⟨fun _ => ?_, fun h => absurd (by omega) h⟩
    rw [if_pos (by omega)]
    exact hend
  | succ q ih =>
    intro k a b hq
    have key := ih (k + 1) (by omega) (by omega) (by omega)
    refine vl_X6_playThrough_34 _ _ _ _ ⟨fun h => absurd h (by omega), fun _ => ⟨⟨a, by omega⟩, fun h => ?_, fun h => ?_⟩⟩
    · have e := (h1 k a (by omega)).mp h
      rw [w32_id (by omega) (by omega)]
      rw [if_pos (by omega)] at key
      rw [e] at key ⊢
      exact key
    · have e : k ≠ k0 := fun e => h ((h1 k a (by omega)).mpr e)
      rw [w32_id (by omega) (by omega)]
      have e2 : (if k0 < k then k0 + 1 else 0) = (if k0 < k + 1 then k0 + 1 else 0) := by
        by_cases z : k0 < k
        · rw [if_pos z, if_pos (by omega)]
        · rw [if_neg z, if_neg (by omega)]
      rw [e2]
      exact key
/-- where a known line stands in a sorted list -/
theorem lst_at {C : AS} {t i : Int} {f : Int → Int} {R : Int} (hS : SI C) (hR : 0 ≤ R) (hf : rl R f = lst C 3999 t (C 7 11)) (hi : 0 ≤ i ∧ i < C 7 11) (hk : knw C t i = true) (hd : C 13 i ≤ 3999) : ∃ k0, (0 ≤ k0 ∧ k0 < R) ∧ (∀ k : Int, 0 ≤ k → k < R → (f k = i ↔ k = k0)) ∧ rl k0 f = preL C t i := by
  obtain ⟨n, rfl⟩ : ∃ n : Nat, R = n := ⟨R.toNat, by omega⟩
  have hm : i ∈ rl (n : Int) f := by rw [hf]; exact (lst_in hS).mpr ⟨hi, hk, hd⟩
  obtain ⟨k0, a, b, c⟩ := rl_mem.mp hm
  have pw : (rl (n : Int) f).Pairwise (ahd C) := by rw [hf]; exact lst_srt hS
  have pw2 := rl_pw.mp pw
  have uniq : ∀ k : Int, 0 ≤ k → k < n → (f k = i ↔ k = k0) := by
    intro k u v
    constructor
    · intro e
      by_cases z : k = k0
      · exact z
      · exfalso
        by_cases z2 : k < k0
        · have := pw2 k k0 u z2 b
          rw [e, c] at this
          exact ahd_irr this
        · have := pw2 k0 k a (by omega) v
          rw [e, c] at this
          exact ahd_irr this
    · intro e
      rw [e, c]
  refine ⟨k0, ⟨a, b⟩, uniq, ?_⟩
  unfold preL
  rw [← hf]
  obtain ⟨kk, rfl⟩ : ∃ kk : Nat, k0 = kk := ⟨k0.toNat, by omega⟩
  exact (takeW_rl (by omega) c (fun j u v e => by have := (uniq j u (by omega)).mp e; omega)).symm
def OKD (C : AS) : Prop := ∀ i : Int, 0 ≤ i → i < C 7 11 → 0 ≤ C 13 i ∧ C 13 i ≤ 3999
theorem OKB_lv {C : AS} {n : Nat} (hO : OKB C n) : ∀ k : Int, 0 ≤ k → k < C 7 11 → lv C (C 18 k) := by
  intro k a b
  have := (hO.2.2.2.2.2.1.2 (C 18 k)).mp (rl_mem.mpr ⟨k, a, b, rfl⟩)
  exact (hO.2.2.2.2.2.2 _ this.1 this.2).1
theorem sp_playThrough {Ln : Int} {d : Nat} {C σ : AS} {F : FD} {t i : Int} {n : Nat} (hO : OKB C n) (hD : OKD C) (hF : ruX Ln C F) (hf : Fr wkX wkF C σ) (hi : 0 ≤ i ∧ i < C 7 11) :
    am_M Ln (d + 8) 33 [vR 40, vI i, vI t] σ (am_rI fun r σ' => r = (if knw C t i = true then 1 else 0) ∧ Fr clX clF σ σ' ∧ (knw C t i = true → lastF C F t fo0 i (mPre C F t i) σ')) := by
  obtain ⟨hB, o1, o2, hkn, hn, hS, o6⟩ := id hO
  have hd := hD i hi.1 hi.2
  refine vm_X6_playThrough _ _ _ (cI (sp_isKnown (by omega)) ?_)
  rintro r s0 ⟨r1, rfl⟩
  have ek : knw s0 t i = knw C t i := by unfold knw; rw [hf.cell 16 (by decide), hf.cell 17 (by decide)]
  rw [ek] at r1
  refine ⟨fun hz => ⟨am_b0, ?_, Fr.rf, fun h => ?_⟩, fun hz => ?_⟩
  · rw [hz] at r1; exact r1
  · rw [if_pos h] at r1; omega
  · have hk : knw C t i = true := by
      by_cases z : knw C t i = true
      · exact z
      · rw [if_neg z] at r1; exact absurd r1 hz
    have hlvS := OKB_lv hO
    refine cV (sp_list hf hn (fun k a b => (hlvS k a b).1)) ?_
    rintro s1 ⟨l1, l2, l3, l4, l5⟩
    refine cV (sp_clear s1) ?_
    rintro s2 ⟨c1, c2, c3, c4, c5⟩
    have e65 : s2 65 = s1 65 := c3.cell 65 (by decide)
    have e7 : s2 40 7 = s1 40 7 := c3.fld 40 7 (by decide)
    have f2 : Fr clX clF s0 s2 := (l1.mo (by decide) (by decide)).tr (c3.mo (by decide) (by decide))
    have hls : rl (s2 40 7) (s2 65) = lst C 3999 t (C 7 11) := by rw [e65, e7]; exact l5
    obtain ⟨k0, hk0, huniq, hpre⟩ := lst_at hS (by omega) hls hi hk hd.2
    have fC : Fr wkX wkF C s2 := hf.tr (f2.mo (by decide) (by decide))
    have hst := lp_thr (Ln := Ln) (d := d + 7) (σ := s2) (i := i) (k0 := k0) (n := s2 40 7) (Q := am_rI fun r σ' => r = (if knw C t i = true then 1 else 0) ∧ Fr clX clF s0 σ' ∧ (knw C t i = true → lastF C F t fo0 i (mPre C F t i) σ')) rfl (by omega) hk0 huniq ?_ _ 0 (by omega) (by omega) rfl
    · rw [if_neg (by omega)] at hst
      exact hst
    · refine cV (P := fun σ' => Fr clX clF s2 σ' ∧ lastF C F t fo0 i (mPre C F t i) σ') ?_ ?_
      · refine vm_X6_play _ _ _ ?_
        have fr : Fr [] [(40, 14)] s2 (am_up s2 40 14 0) := Fr.up Fr.rf (Or.inr (by decide))
        obtain ⟨ρ, hρ⟩ : ∃ ρ, ρ = am_up s2 40 14 0 := ⟨_, rfl⟩
        rw [← hρ] at fr ⊢
        have h14 : ρ 40 14 = 0 := by rw [hρ, am_up_eq, if_pos rfl]
        have e65' : ρ 65 = s2 65 := fr.cell 65 (by decide)
        have hlv2 := lst_lv hlvS hls
        refine am_EV (lp_playL (t := t) (fo := fo0) (e := k0 + 1) (n := k0 + 1) hF hkn _ ρ m0 0 (RX_fr (RX_0 c1 (fun o a b => (c4 o a b).2) c5) fr (by decide) (by decide) (by decide)) m0_MI (fC.tr (fr.mo (by decide) (by decide))) (by rw [fr.fld 40 9 (by decide), c3.fld 40 9 (by decide)]; exact l2) (by rw [fr.fld 41 9 (by decide)]; omega) (fun p a b => ⟨by rw [fr.cell 66 (by decide), c3.cell 66 (by decide)]; exact l3 p a b, by show (-1 : Int) ≤ -1; omega, by show (-1 : Int) ≤ 4; omega⟩) (by rw [fr.fld 40 7 (by decide)]; omega) (by omega) (by rw [e65']; exact fun x a b => hlv2 x a (by omega)) (by omega) (by omega) rfl) ?_
        rintro s ⟨x1, -, x3⟩
        have x4 := x3 (by omega)
        rw [e65', show k0 + 1 - 1 = k0 by omega, (huniq k0 hk0.1 hk0.2).mpr rfl, show k0 - 0 = k0 by omega, show (fun x => s2 65 (0 + x)) = s2 65 from funext fun x => by rw [Int.zero_add], hpre] at x4
        exact ⟨(fr.mo (by decide) (by decide)).tr (x1.mo (by decide) (by decide)), x4⟩
      · intro s hs
        refine ⟨am_b1, ?_⟩
        exact ⟨by rw [if_pos hk], f2.tr hs.1, fun _ => hs.2⟩
