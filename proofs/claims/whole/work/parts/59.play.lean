/-! lines played one after another by the class -/
def mpl (C : AS) (F : FD) (t : Int) (fo : Int → Int) : List Int → MS → MS
  | [], m => m
  | i :: r, m => mpl C F t fo r (mact C F t fo i m)
def mfl (C : AS) (F : FD) (t : Int) (fo : Int → Int) : List Int → MS → Int
  | [], _ => 0
  | i :: r, m => (if mfail C i m = true then 1 else 0) + mfl C F t fo r (mact C F t fo i m)
def plX : List Nat := [36, 37, 38, 42, 43, 44, 45, 46, 47, 48, 49, 50, 51, 52, 67, 68]
def plF : List (Nat × Int) := [(41, 3), (41, 9), (40, 10), (40, 11), (40, 12), (40, 13), (40, 14)]
def xplay (C : AS) (F : FD) (t : Int) (fo : Int → Int) (is : List Int) (m : MS) (σ σ' : AS) : Prop := RX (mpl C F t fo is m) σ' ∧ Fr plX plF σ σ' ∧ 0 ≤ σ' 41 9 ∧ σ' 40 14 = σ 40 14 + mfl C F t fo is m
theorem lp_play {Ln : Int} {d : Nat} {C : AS} {F : FD} {t : Int} {fo : Int → Int} {e n : Int} (hF : ruX Ln C F) (hkn : C 19 4 ≤ 100) : ∀ (q : Nat) (σ : AS) (m : MS) (j : Int), RX m σ → MI j m → Fr wkX wkF C σ → σ 40 9 = t → 0 ≤ σ 41 9 → (∀ p : Int, 0 ≤ p → p < 10 → σ 66 p = fo p ∧ -1 ≤ fo p ∧ fo p ≤ 4) → n = min e (σ 40 7) → n ≤ 100 → (∀ x : Int, 0 ≤ x → x < n → lv C (σ 65 x)) → (0 ≤ σ 40 14 ∧ σ 40 14 ≤ j) → 0 ≤ j → (n - j).toNat = q →
    am_E Ln (d + 5) 36 7 [vR 40, vU, vI e, vI j] [] σ (am_rV (xplay C F t fo (rl (n - j) (fun x => σ 65 (j + x))) m σ)) := by
  intro q
  induction q with
  | zero =>
    intro σ m j hr hm hf ht h9 hfo hn hn1 hlv h14 h0 hq
    have fin : xplay C F t fo (rl (n - j) (fun x => σ 65 (j + x))) m σ σ := by
      rw [rl_neg _ (by omega)]
      exact ⟨hr, Fr.rf, h9, by rw [mfl]; omega⟩
    exact vl_X6_play_7 _ _ _ ⟨fun _ => fin, fun _ => ⟨fun _ => fin, fun h => absurd (by omega) h⟩⟩
  | succ q ih =>
    intro σ m j hr hm hf ht h9 hfo hn hn1 hlv h14 h0 hq
    have hl := hlv j h0 (by omega)
    refine vl_X6_play_7 _ _ _ ⟨fun h => absurd h (by omega), fun _ => ⟨fun h => absurd h (by omega), fun _ => ⟨⟨by omega, by omega⟩, ?_⟩⟩⟩
    refine cV (sp_decide (d := d + 1) (k := j) hr hm h9 hf hl hF ht hfo) ?_
    rintro s1 ⟨d1, d2, d3, d4⟩
    have e65 : s1 65 = σ 65 := d1.cell 65 (by decide)
    rw [e65]
    refine ⟨⟨by omega, by omega⟩, cV (sp_act (k := j) (RX_fr hr d1 (by decide) (by decide) (by decide)) hm (by omega) (hf.tr (d1.mo (by decide) (by decide))) hl hkn (by rw [d1.fld 40 9 (by decide)]; exact ht) d2 d3 d4) ?_⟩
    rintro s2 ⟨a1, a2, a3, a4, a5⟩
    have f2 : Fr plX plF σ s2 := (d1.mo (by decide) (by decide)).tr (a3.mo (by decide) (by decide))
    have e14 : s2 40 14 = σ 40 14 := by rw [a3.fld 40 14 (by decide), d1.fld 40 14 (by decide)]
    have el : rl (n - j) (fun x => σ 65 (j + x)) = σ 65 j :: rl (n - (j + 1)) (fun x => σ 65 (j + 1 + x)) := by
      rw [rl_cons _ (by omega), Int.add_zero, show n - j - 1 = n - (j + 1) by omega]
      congr 1
      exact rl_congr fun x _ _ => by rw [show j + (x + 1) = j + 1 + x by omega]
    have nx : ∀ s3 : AS, Fr [] [(40, 14)] s2 s3 → s3 40 14 = σ 40 14 + (if mfail C (σ 65 j) m = true then 1 else 0) → am_E Ln (d + 5) 36 7 [vR 40, vU, vI e, vI (w32 (j + 1))] [] s3 (am_rV (xplay C F t fo (rl (n - j) (fun x => σ 65 (j + x))) m σ)) := by
      intro s3 k1 k2
      have f3 : Fr plX plF σ s3 := f2.tr (k1.mo (by decide) (by decide))
      have c65 : s3 65 = σ 65 := f3.cell 65 (by decide)
      rw [w32_id (by omega) (by omega)]
      refine am_EV (ih s3 (mact C F t fo (σ 65 j) m) (j + 1) (RX_fr a1 k1 (by decide) (by decide) (by decide)) (mact_MI hm (by omega) hl) (hf.tr (f3.mo (by decide) (by decide))) (by rw [f3.fld 40 9 (by decide)]; exact ht) (by rw [k1.fld 41 9 (by decide)]; exact a4) (by rw [f3.cell 66 (by decide)]; exact hfo) (by rw [f3.fld 40 7 (by decide)]; exact hn) hn1 (by rw [c65]; exact hlv) (by rw [k2]; split <;> omega) (by omega) (by omega)) ?_
      rintro s ⟨x1, x2, x3, x4⟩
      rw [c65] at x1 x4
      rw [el]
      exact ⟨x1, f3.tr x2, x3, by rw [x4, k2, mfl]; omega⟩
    refine ⟨fun h => nx s2 Fr.rf ?_, fun h => nx _ (Fr.up Fr.rf (Or.inr (by decide))) ?_⟩
    · rw [e14]; rw [a2] at h
      split at h
      · exact absurd h (by decide)
      · rename_i hz; rw [if_neg hz]; omega
    · rw [a2] at h
      rw [am_up_eq, if_pos rfl, w32_id (by omega) (by omega), e14]
      split at h
      · rename_i hz; rw [if_pos hz]
      · exact absurd rfl h
