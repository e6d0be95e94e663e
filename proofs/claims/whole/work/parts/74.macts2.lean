/-! a line played, in the model -/
/-- persons of a line are there -/
def lvn (C : AS) (n : Nat) (i : Int) : Prop := (C 8 i = 0 ∨ C 8 i = 5 → C 10 i < n) ∧ ∀ p : Int, 0 ≤ p → p < 10 → C 5 p < n
theorem sm_two {f : Int → Int} {n : Nat} {i j : Int} (h : ∀ i : Int, 0 ≤ i → i < n → 0 ≤ f i) (hi : 0 ≤ i ∧ i < n) (hj : 0 ≤ j ∧ j < n) (hne : i ≠ j) : f i + f j ≤ sm f n := by
  have h1 := sm_fu (f := f) (h := i) (v := 0) (n := n) hi.1 hi.2
  have h2 := sm_one (f := fu f i 0) (n := n) (fun k a b => by unfold fu; split; omega; exact h k a b) hj.1 hj.2
  rw [fu_ne (fun q => hne q.symm)] at h2
  omega
def xacts (C : AS) (F : FD) (t : Int) (fo : Int → Int) (i : Int) (m : MS) (σ : AS) (r : Int) (σ' : AS) : Prop := r = (if mfail C i m = true then 0 else 1) ∧ RM (mact C F t fo i m) σ' ∧ Fr [113, 114, 115, 116, 117, 118, 119, 120, 122, 123, 124, 125] [(82, 54)] σ σ' ∧ (0 ≤ σ' 82 54 ∧ σ' 82 54 ≤ 1390) ∧ (∀ q ∈ mt σ', 0 ≤ q.2) ∧ psum (mt σ') ≤ 1000000 ∧
  (mfail C i m = false → ∀ x : Int, 0 ≤ x → x < 10 → (0 ≤ σ' 125 x ∧ σ' 125 x ≤ 1000000) ∧ (tkD (C 8 i) = true → σ' 125 x = 0 ∧ pof x (mt σ') = mgot C F t fo i m x) ∧ (¬ tkD (C 8 i) = true → σ' 125 x = mgot C F t fo i m x))
set_option maxHeartbeats 8000000 in
theorem sp_acts {Ln : Int} {d : Nat} {C σ : AS} {F : FD} {m : MS} {k i t : Int} {n : Nat} {fo : Int → Int} (hB : BK C) (hl : lv C i) (hln : lvn C n i) (hf : Fr wkX wkF C σ) (hn : C 1 11 = n) (hn2 : n ≤ 10) (hr : RM m σ) (hm : MI k m) (hk : k < 100) (hmn : MN n m) (hF : ruM Ln n C F) (hkn : C 19 4 ≤ 100)
    (hfo : ∀ p : Int, 0 ≤ p → p < 10 → σ 121 p = fo p ∧ -1 ≤ fo p ∧ fo p ≤ 4) :
    am_M Ln (d + 8) 202 [vR 82, vI i, vI t] σ (am_rI (xacts C F t fo i m σ)) := by
  have hl0 := hl
  obtain ⟨l1, l2, l3, l4, l5, l6, l7⟩ := hl
  have lh := l7 _ l3.1 l3.2
  have hhn := hln.2 _ l3.1 l3.2
  have hB0 := hB
  obtain ⟨⟨b84, b85, b86, b87, b88, b89, b90, b91, b92, b93, b94, b95⟩, -, -, -, bn, -⟩ := hB
  have hk0 := hm.1
  have hP := hm.2.1 _ l3.1 l3.2
  have e87 := hf.cell 87 (by decide)
  -- the stores behind: only what is reckoned with has changed
  have st : ∀ (ρ : AS), Fr [122, 123, 124, 125] [(82, 54)] σ ρ → RM m ρ ∧ Fr wkX wkF C ρ ∧ (ρ 86 = C 8 ∧ ρ 87 = C 9 ∧ ρ 88 = C 10 ∧ ρ 89 = C 11 ∧ ρ 95 = C 12 ∧ ρ 85 = C 6 ∧ ρ 84 = C 5) ∧ (∀ p : Int, 0 ≤ p → p < 10 → ρ 121 p = fo p ∧ -1 ≤ fo p ∧ fo p ≤ 4) ∧ ρ 82 3 = n ∧ Fr [113, 114, 115, 116, 117, 118, 119, 120, 122, 123, 124, 125] [(82, 54)] σ ρ := by
    intro ρ h
    have h3 : Fr wkX wkF C ρ := hf.tr (h.mo (by decide) (by decide))
    refine ⟨RM_fr hr h (by decide), h3, ⟨by rw [h3.cell 86 (by decide), b86], by rw [h3.cell 87 (by decide), b87], by rw [h3.cell 88 (by decide), b88], by rw [h3.cell 89 (by decide), b89], by rw [h3.cell 95 (by decide), b95], by rw [h3.cell 85 (by decide), b85], by rw [h3.cell 84 (by decide), b84]⟩, by rw [h.cell 121 (by decide)]; exact hfo, by rw [h3.fld 82 3 (by decide), bn, hn], h.mo (by decide) (by decide)⟩
  have mt0 : ∀ {ρ : AS}, ρ 82 54 = 0 → mt ρ = [] := fun h => by unfold mt; rw [h]; rfl
  have main : ∀ (ρ : AS), Fr [125] [(82, 54)] σ ρ → ρ 82 54 = 0 → (∀ x : Int, 0 ≤ x → x < 10 → ρ 125 x = 0) → am_E Ln (d + 7) 202 15 [vR 82, vI i, vI t, vI (C 9 i), vI 10, vU] [] ρ (am_rI (xacts C F t fo i m σ)) := by
    intro ρ fρ h54 h125
    obtain ⟨R0, fC0, ⟨z86, z87, z88, z89, z95, z85, z84⟩, zfo, z3, fr0⟩ := st ρ (fρ.mo (by decide) (by decide))
    have hlen := RM_len R0 hm
    refine vl_X12_acts_15 _ _ _ _ _ ⟨fun _ => ⟨l1, ?_⟩, fun q => absurd (by omega) q⟩
    rw [z86, z88, z89]
    refine ⟨fun k0 => ?_, fun k0 => ⟨l1, fun k4 => ?_, fun k4 => ⟨l1, fun k5 => ?_, fun k5 => ?_⟩⟩⟩
    · -- COME
      have lq := l5 (by omega)
      have htk : ¬ tkD (C 8 i) = true := fun q => by rcases tkD_iff.mp q with z | z | z <;> omega
      have hfl : mfail C i m = false := by unfold mfail; simp [htk]
      obtain ⟨τ, hτ⟩ : ∃ τ, τ = am_up ρ 125 (C 10 i) (C 11 i) := ⟨_, rfl⟩
      have fτ : Fr [125] [] ρ τ := by rw [hτ]; exact Fr.up Fr.rf (Or.inl (by decide))
      have Rτ := RM_fr R0 fτ (by decide)
      have hlen := RM_len Rτ hm
      refine ⟨l1, l1, lq, l1, l1, ?_⟩
      rw [← hτ]
      have exq := (Rτ.1 _ l3.1 l3.2).1
      refine cV (sp_lays l3 (fun p a b => by have := hlen p a b; omega) ⟨by omega, by omega⟩ (by rw [exq]; exact pok_nn hP.1) (by rw [exq]; omega)) ?_
      rintro s1 ⟨y1, y2, y3, y4⟩
      have e54 : s1 82 54 = 0 := by rw [y1.fld 82 54 (by decide), fτ.fld 82 54 (by decide), h54]
      have em : mact C F t fo i m = (fuP m.1 (C 9 i) (lay (m.1 (C 9 i)) (C 10 i) (C 11 i)), m.2.1, m.2.2) := by rw [mact, if_neg htk, if_pos k0]
      refine ⟨am_b1, by rw [hfl]; rfl, ?_, fr0.tr ((fτ.mo (by decide) (by decide)).tr (y1.mo (by decide) (by decide))), ⟨by omega, by omega⟩, (by rw [mt0 e54]; exact fun q hq => by cases hq), by rw [mt0 e54, psum_nil]; omega, fun _ x a b => ?_⟩
      · rw [em]
        refine ⟨fun p a b => ⟨?_, (y3 p a b).1⟩, fun c a b => ?_, fun c a b => ?_⟩
        · show mp s1 p = fuP _ _ _ p
          rw [y2 p a b, fuP, exq, (Rτ.1 p a b).1]
        · rw [y1.cell 116 (by decide)]; exact Rτ.2.1 c a b
        · rw [y1.cell 117 (by decide)]; exact Rτ.2.2 c a b
      · have e : s1 125 x = mgot C F t fo i m x := by
          rw [y1.cell 125 (by decide), hτ, am_up_eq, mgot, if_neg htk, if_pos k0, h125 x a b]
        refine ⟨?_, fun q => absurd q htk, fun _ => e⟩
        rw [e, mgot, if_neg htk, if_pos k0]
        split <;> omega
    · -- SELL
      have lq := l5 (by omega)
      have htk : ¬ tkD (C 8 i) = true := fun q => by rcases tkD_iff.mp q with z | z | z <;> omega
      have hfl : mfail C i m = false := by unfold mfail; simp [htk]
      refine cV (sp_msells (d := d + 1) hB0 hl0 k4 fC0 hn hn2 hhn R0 hm hmn hF h125) ?_
      rintro s2 ⟨y1, y2, y3, y4, y5⟩
      have e54 : s2 82 54 = 0 := by rw [y1.fld 82 54 (by decide), h54]
      have em : mact C F t fo i m = (fuP m.1 (C 9 i) (layAll (m.1 (C 9 i)) (rl 10 (fun x => (x, gnF C F t i m x)))), (fun c => if 10 * C 10 i ≤ c ∧ c < 10 * C 10 i + 10 then 0 else m.2.1 c), m.2.2) := by rw [mact, if_neg htk, if_neg (by omega), if_pos (by omega)]
      refine ⟨am_b1, by rw [hfl]; rfl, ?_, fr0.tr (y1.mo (by decide) (by decide)), ⟨by omega, by omega⟩, (by rw [mt0 e54]; exact fun q hq => by cases hq), by rw [mt0 e54, psum_nil]; omega, fun _ x a b => ?_⟩
      · rw [em]
        refine ⟨fun p a b => ⟨?_, y3 p a b⟩, fun c a b => ?_, fun c a b => ?_⟩
        · show mp s2 p = fuP _ _ _ p
          rw [y2 p a b, fuP]
          by_cases ee : p = C 9 i
          · rw [if_pos ee, if_pos ee, ee]
          · rw [if_neg ee, if_neg ee]
        · exact y4 c a b
        · rw [y1.cell 117 (by decide)]; exact R0.2.2 c a b
      · have e : s2 125 x = mgot C F t fo i m x := by rw [y5 x a b, mgot, if_neg htk, if_neg k0, if_pos k4]
        have hwS : ∀ x : Int, 0 ≤ x → x < (10 : Nat) → 0 ≤ shF C i m x := fun x a b => ((hm.2.2.2 (10 * C 10 i + x) (by omega) (by omega)).1).1
        have gb := gai_bd (ri := risF C F t i (m.1 (C 9 i))) (s := C 11 i) (h := C 5 (C 9 i)) (w := shF C i m) (by omega) lh hwS
        have h1 := sm_one gb.2 a (by omega)
        have h2 := gb.2 x a (by omega)
        refine ⟨?_, fun q => absurd q htk, fun _ => e⟩
        rw [y5 x a b]
        show 0 ≤ gaiF (risF C F t i (m.1 (C 9 i))) (C 11 i) (C 5 (C 9 i)) (shF C i m) x ∧ gaiF (risF C F t i (m.1 (C 9 i))) (C 11 i) (C 5 (C 9 i)) (shF C i m) x ≤ 1000000
        omega
    · -- MADE GOOD
      have lq := l5 (by omega)
      have htk : ¬ tkD (C 8 i) = true := fun q => by rcases tkD_iff.mp q with z | z | z <;> omega
      have hfl : mfail C i m = false := by unfold mfail; simp [htk]
      have exq := (R0.1 _ l3.1 l3.2).1
      have eL := R0.2.2 (10 * C 9 i + C 10 i) (by omega) (by omega)
      have bL := (hm.2.2.2 (10 * C 9 i + C 10 i) (by omega) (by omega)).2
      refine cV (sp_mgood (d := d + 5) hB0 hl0 k5 fC0 (fun p a b => by have := hlen p a b; omega) (by rw [exq]; exact pok_nn hP.1) (by rw [exq]; omega) (by rw [eL]; omega) h125) ?_
      rintro s3 ⟨y1, y2, y3, y4, y5⟩
      rw [eL] at y2 y4 y5
      have e54 : s3 82 54 = 0 := by rw [y1.fld 82 54 (by decide), h54]
      have em : mact C F t fo i m = (fuP m.1 (C 9 i) (lay (lay (m.1 (C 9 i)) (C 10 i) (bkF C i m)) (C 5 (C 9 i)) (C 11 i - bkF C i m)), m.2.1, fu m.2.2 (10 * C 9 i + C 10 i) (m.2.2 (10 * C 9 i + C 10 i) - bkF C i m)) := by rw [mact, if_neg htk, if_neg (by omega), if_neg (by omega)]
      refine ⟨am_b1, by rw [hfl]; rfl, ?_, fr0.tr (y1.mo (by decide) (by decide)), ⟨by omega, by omega⟩, (by rw [mt0 e54]; exact fun q hq => by cases hq), by rw [mt0 e54, psum_nil]; omega, fun _ x a b => ?_⟩
      · rw [em]
        refine ⟨fun p a b => ⟨?_, y3 p a b⟩, fun c a b => ?_, fun c a b => ?_⟩
        · show mp s3 p = fuP _ _ _ p
          rw [y2 p a b, fuP, exq, (R0.1 p a b).1]; rfl
        · rw [y1.cell 116 (by decide)]; exact R0.2.1 c a b
        · rw [y4]
          show fu _ _ _ c = fu _ _ _ c
          unfold fu
          split
          · rfl
          · exact R0.2.2 c a b
      · have e : s3 125 x = mgot C F t fo i m x := by rw [y5 x a b, mgot, if_neg htk, if_neg k0, if_neg k4]; rfl
        refine ⟨?_, fun q => absurd q htk, fun _ => e⟩
        rw [y5 x a b]
        split <;> split <;> omega
    · -- takes
      have htk : tkD (C 8 i) = true := tkD_iff.mpr (by omega)
      have hkd := tkD_iff.mp htk
      refine cI (sp_wayOf (d := d + 1) hB0 hl0 htk fC0 R0 hm hmn hF zfo) ?_
      rintro r5 s4 ⟨w1, w2, f4⟩
      have body : ∀ (e : Int) (s : AS), Fr [122, 123, 124] [] ρ s → (C 8 i = 1 → e = endF C F t i (m.1 (C 9 i))) →
          ∃ T : Option AV → AS → Prop, am_M Ln (d + 7) 180 [vR 82, vI (C 9 i)] s T ∧ ∀ (r7 : Int) s6, T (some (vI r7)) s6 →
              (0 ≤ i ∧ i < 100) ∧ ((s6 89 i ≤ r7 →
                (0 ≤ i ∧ i < 100) ∧ (∃ T : Option AV → AS → Prop, am_M Ln (d + 7) 188 [vR 82, vI (C 9 i), vI (s6 89 i), vI r5] s6 T ∧ ∀ s8, T none s8 →
                (0 ≤ i ∧ i < 100) ∧ ((s8 86 i = 1 →
                  ∃ T : Option AV → AS → Prop, am_M Ln (d + 7) 196 [vR 82, vI i, vI e, vI t] s8 T ∧ ∀ s9, T none s9 →
                  am_b 1 ∧ am_rI (xacts C F t fo i m σ) (some (vI 1)) s9) ∧
                (¬ (s8 86 i = 1) →
                  (0 ≤ i ∧ i < 100) ∧ ((s8 86 i = 2 →
                    ∃ T : Option AV → AS → Prop, am_M Ln (d + 7) 197 [vR 82, vI i] s8 T ∧ ∀ s10, T none s10 →
                    am_b 1 ∧ am_rI (xacts C F t fo i m σ) (some (vI 1)) s10) ∧
                  (¬ (s8 86 i = 2) →
                    ∃ T : Option AV → AS → Prop, am_M Ln (d + 7) 198 [vR 82, vI i] s8 T ∧ ∀ s11, T none s11 →
                    am_b 1 ∧ am_rI (xacts C F t fo i m σ) (some (vI 1)) s11)))))) ∧
              (¬ (s6 89 i ≤ r7) →
                am_b 0 ∧ am_rI (xacts C F t fo i m σ) (some (vI 0)) s6)) := by
        intro e s fs he
        have fs0 : Fr [122, 123, 124, 125] [(82, 54)] σ s := (fρ.mo (by decide) (by decide)).tr (fs.mo (by decide) (by decide))
        obtain ⟨R1, fC1, ⟨v86, v87, v88, v89, v95, v85, v84⟩, vfo, v3, fr1⟩ := st s fs0
        have v54 : s 82 54 = 0 := by rw [fs.fld 82 54 (by decide), h54]
        have v125 : ∀ x : Int, 0 ≤ x → x < 10 → s 125 x = 0 := fun x a b => by rw [fs.cell 125 (by decide)]; exact h125 x a b
        have T1 := RM_T R1 hm
        have exq := (R1.1 _ l3.1 l3.2).1
        refine cI (sp_allOf l3 T1) ?_
        rintro r7 s6 ⟨r7e, rfl⟩
        rw [exq] at r7e
        rw [v89]
        refine ⟨l1, fun hle => ⟨l1, ?_⟩, fun hle => ⟨am_b0, ?_⟩⟩
        · have hps : ¬ psum (m.1 (C 9 i)) < C 11 i := by omega
          have hfl : mfail C i m = false := by unfold mfail; simp [hps]
          refine cV (sp_takesOut (d := d + 2) (n := n) l3 T1 (by rw [v84]) (w1 ▸ w2) v3 hn2 (by rw [exq]; exact hmn.1 _ l3.1 l3.2) (by rw [exq]; exact hP.1) ⟨by omega, by omega⟩ (by rw [exq]; omega)) ?_
          rintro s8 ⟨y1, y2, y3, y4, y5, y6⟩
          have etw : takeW r5 (C 11 i) (C 5 (C 9 i)) (mp s6 (C 9 i)) = twF C F t fo i m := by rw [twF, exq, w1]
          rw [etw] at y2 y4
          obtain ⟨t1, t2, t3, t4, t5, t6, t7⟩ := tw_ok (F := F) (t := t) (fo := fo) hm hl0 hps
          obtain ⟨rr, hrr⟩ : ∃ rr, rr = twF C F t fo i m := ⟨_, rfl⟩
          rw [← hrr] at y2 y4 t1 t2 t3 t4 t5 t6 t7
          have f8 : Fr wkX wkF C s8 := fC1.tr (y1.mo (by decide) (by decide))
          have fr8 : Fr [113, 114, 115, 116, 117, 118, 119, 120, 122, 123, 124, 125] [(82, 54)] σ s8 := fr1.tr (y1.mo (by decide) (by decide))
          have z8 : s8 86 i = C 8 i := by rw [f8.cell 86 (by decide), b86]
          have z125 : ∀ x : Int, 0 ≤ x → x < 10 → s8 125 x = 0 := fun x a b => by rw [y1.cell 125 (by decide)]; exact v125 x a b
          have xP : ∀ p : Int, 0 ≤ p → p < 10 → mp s8 p = fuP m.1 (C 9 i) (layAll [] rr.1) p := fun p a b => by
            unfold fuP
            by_cases ee : p = C 9 i
            · rw [if_pos ee, ee, y2]
            · rw [if_neg ee, y3 p a b ee, (R1.1 p a b).1]
          have zS : ∀ c : Int, 0 ≤ c → c < 100 → s8 116 c = m.2.1 c := fun c a b => by rw [y1.cell 116 (by decide)]; exact R1.2.1 c a b
          have zL : ∀ c : Int, 0 ≤ c → c < 100 → s8 117 c = m.2.2 c := fun c a b => by rw [y1.cell 117 (by decide)]; exact R1.2.2 c a b
          have rn : ∀ q ∈ rr.2, 0 ≤ q.2 := fun q hq => by have := (t2 q hq).1; omega
          have rper : ∀ q ∈ rr.2, 0 ≤ q.1 ∧ q.1 < 10 := by
            intro q hq
            obtain ⟨x, hx, e⟩ := List.mem_map.mp (t2 q hq).2
            have h1 := hP.1 x hx
            rw [← e]
            exact ⟨h1.1, h1.2.1⟩
          have mtp8 : pok (mt s8) := by rw [y4]; exact layAll_pok pok_nil rper
          have mtn : ∀ q ∈ mt s8, 0 ≤ q.2 := pok_nn mtp8
          have mts : psum (mt s8) ≤ 1000000 := by rw [y4, layAll_psum rn, psum_nil]; omega
          have mtpo : ∀ x, pof x (mt s8) = pof x rr.2 := fun x => by rw [y4, layAll_pof rn, pof_nil, Int.zero_add]
          have mtl : s8 82 54 ≤ rr.2.length := by
            rw [← mt_len y5, y4]
            have := layAll_len (r := rr.2) (l := [])
            rw [List.length_nil] at this
            omega
          have a4 := nz_pok hP.1
          have alen : ((m.1 (C 9 i)).length : Int) ≤ 10 * k := by
            have := RM_len R1 hm _ l3.1 l3.2
            rw [← exq, mp_len this.1]
            exact this.2
          have el : ∀ j : Int, 0 ≤ j → j < s8 82 54 → (0 ≤ s8 118 j ∧ s8 118 j < 10) ∧ 0 ≤ s8 119 j := by
            intro j a b
            have hj := mtp8 (s8 118 j, s8 119 j) (rl_mem.mpr ⟨j, a, b, rfl⟩)
            exact ⟨⟨hj.1, hj.2.1⟩, by have := hj.2.2; dsimp only at this; omega⟩
          rw [z8]
          refine ⟨l1, fun k1 => ?_, fun k1 => ⟨l1, fun k2 => ?_, fun k2 => ?_⟩⟩
          · have lq := l5 (by omega)
            have hne := l6 k1
            have exq2 : mp s8 (C 10 i) = m.1 (C 10 i) := by rw [xP _ lq.1 lq.2, fuP_ne hne]
            have hPq := hm.2.1 _ lq.1 lq.2
            have rows : ∀ p : Int, 0 ≤ p → p < 10 → 0 ≤ s8 113 p ∧ s8 113 p + s8 82 54 ≤ 1390 := by
              intro p a b
              have h6 := y6 p a b
              refine ⟨h6.1, ?_⟩
              have hl8 := mp_len h6.1
              rw [xP p a b] at hl8
              have hmst := hm.2.2.1
              unfold mst at hmst
              by_cases ee : p = C 9 i
              · rw [ee, fuP_eq] at hl8
                have a3 := layAll_nz (r := rr.1) (l := [])
                rw [List.length_nil, Nat.zero_add] at a3
                rw [ee]
                omega
              · rw [fuP_ne ee] at hl8
                have h2 := sm_two (f := fun p => ((m.1 p).length : Int)) (n := 10) (fun i _ _ => by omega) ⟨a, by omega⟩ ⟨l3.1, by omega⟩ ee
                omega
            refine cV (sp_mmoves (d := d + 5) hB0 hl0 k1 f8 hkn ⟨y5, by have := rows 0 (by omega) (by omega); omega⟩ rows (by rw [exq2]; exact pok_nn hPq.1) (fun j a b => (el j a b).2) (by rw [exq2]; omega)) ?_
            rintro s9 ⟨x1, x2, x3⟩
            rw [exq2, y4, mvT_lay, he k1] at x2
            have em : mact C F t fo i m = (fuP (fuP m.1 (C 9 i) (layAll [] rr.1)) (C 10 i) (layAll (m.1 (C 10 i)) (mvT C t i (endF C F t i (m.1 (C 9 i))) rr.2)), m.2.1, m.2.2) := by rw [mact, if_pos htk, if_neg hps, if_pos (by omega : C 8 i = 1), hrr]
            have emt : mt s9 = mt s8 := mt_eq (x1.fld 82 54 (by decide)) (x1.cell 118 (by decide)) (x1.cell 119 (by decide))
            refine ⟨am_b1, by rw [hfl]; rfl, ?_, fr8.tr (x1.mo (by decide) (by decide)), by rw [x1.fld 82 54 (by decide)]; exact ⟨y5, by have := rows 0 (by omega) (by omega); omega⟩, by rw [emt]; exact mtn, by rw [emt]; exact mts, fun _ x a b => ?_⟩
            · rw [em]
              refine ⟨fun p a b => ⟨?_, x3 p a b⟩, fun c a b => ?_, fun c a b => ?_⟩
              · show mp s9 p = fuP _ _ _ p
                rw [x2 p a b, xP p a b]
                rfl
              · rw [x1.cell 116 (by decide)]; exact zS c a b
              · rw [x1.cell 117 (by decide)]; exact zL c a b
            · have e0 : s9 125 x = 0 := by rw [x1.cell 125 (by decide)]; exact z125 x a b
              exact ⟨by omega, fun _ => ⟨e0, by rw [emt, mtpo, mgot, if_pos htk, hrr]⟩, fun q => absurd htk q⟩
          · refine cV (sp_mspends (d := d + 6) hB0 hl0 f8 ⟨y5, by omega⟩ (fun j a b => (el j a b).1) mtn mts (fun c a b => by rw [zL c a b]; have := (hm.2.2.2 c a b).2; omega)) ?_
            rintro s10 rfl
            have em : mact C F t fo i m = (fuP m.1 (C 9 i) (layAll [] rr.1), m.2.1, addR m.2.2 (10 * C 9 i) (fun x => if x = C 5 (C 9 i) then 0 else pof x rr.2)) := by rw [mact, if_pos htk, if_neg hps, if_neg (by omega), if_pos (by omega), hrr]
            have fz : Fr [117] [] s8 (zc s8 117 (addR (s8 117) (10 * C 9 i) (fun x => if x = C 5 (C 9 i) then 0 else pof x (mt s8)))) := Fr.cl Fr.rf (by decide)
            have emt := mt_eq (fz.fld 82 54 (by decide)) (fz.cell 118 (by decide)) (fz.cell 119 (by decide))
            have emp : ∀ p, mp (zc s8 117 (addR (s8 117) (10 * C 9 i) (fun x => if x = C 5 (C 9 i) then 0 else pof x (mt s8)))) p = mp s8 p := fun p => mp_eq (fz.cell 113 (by decide)) (fz.cell 114 (by decide)) (fz.cell 115 (by decide))
            refine ⟨am_b1, by rw [hfl]; rfl, ?_, fr8.tr (fz.mo (by decide) (by decide)), by rw [fz.fld 82 54 (by decide)]; exact ⟨y5, by omega⟩, by rw [emt]; exact mtn, by rw [emt]; exact mts, fun _ x a b => ?_⟩
            · rw [em]
              refine ⟨fun p a b => ⟨by rw [emp]; exact xP p a b, by rw [fz.cell 113 (by decide)]; exact (y6 p a b).1⟩, fun c a b => by rw [fz.cell 116 (by decide)]; exact zS c a b, fun c a b => ?_⟩
              rw [zc_eq]
              show addR (s8 117) (10 * C 9 i) (fun x => if x = C 5 (C 9 i) then 0 else pof x (mt s8)) c = addR m.2.2 (10 * C 9 i) (fun x => if x = C 5 (C 9 i) then 0 else pof x rr.2) c
              unfold addR
              rw [zL c a b]
              split
              · dsimp only; rw [mtpo]
              · rfl
            · have e0 : zc s8 117 (addR (s8 117) (10 * C 9 i) (fun x => if x = C 5 (C 9 i) then 0 else pof x (mt s8))) 125 x = 0 := by rw [fz.cell 125 (by decide)]; exact z125 x a b
              exact ⟨by omega, fun _ => ⟨e0, by rw [emt, mtpo, mgot, if_pos htk, hrr]⟩, fun q => absurd htk q⟩
          · have lq := l5 (by omega)
            refine cV (sp_mbuys (d := d + 6) hB0 hl0 lq f8 ⟨y5, by omega⟩ (fun j a b => (el j a b).1) mtn mts (fun c a b => by rw [zS c a b]; have := (hm.2.2.2 c a b).1; omega)) ?_
            rintro s11 rfl
            have em : mact C F t fo i m = (fuP m.1 (C 9 i) (layAll [] rr.1), addR m.2.1 (10 * C 10 i) (fun x => pof x rr.2), m.2.2) := by rw [mact, if_pos htk, if_neg hps, if_neg (by omega), if_neg (by omega), hrr]
            have fz : Fr [116] [] s8 (zc s8 116 (addR (s8 116) (10 * C 10 i) (fun x => pof x (mt s8)))) := Fr.cl Fr.rf (by decide)
            have emt := mt_eq (fz.fld 82 54 (by decide)) (fz.cell 118 (by decide)) (fz.cell 119 (by decide))
            have emp : ∀ p, mp (zc s8 116 (addR (s8 116) (10 * C 10 i) (fun x => pof x (mt s8)))) p = mp s8 p := fun p => mp_eq (fz.cell 113 (by decide)) (fz.cell 114 (by decide)) (fz.cell 115 (by decide))
            refine ⟨am_b1, by rw [hfl]; rfl, ?_, fr8.tr (fz.mo (by decide) (by decide)), by rw [fz.fld 82 54 (by decide)]; exact ⟨y5, by omega⟩, by rw [emt]; exact mtn, by rw [emt]; exact mts, fun _ x a b => ?_⟩
            · rw [em]
              refine ⟨fun p a b => ⟨by rw [emp]; exact xP p a b, by rw [fz.cell 113 (by decide)]; exact (y6 p a b).1⟩, fun c a b => ?_, fun c a b => by rw [fz.cell 117 (by decide)]; exact zL c a b⟩
              rw [zc_eq]
              show addR (s8 116) (10 * C 10 i) (fun x => pof x (mt s8)) c = addR m.2.1 (10 * C 10 i) (fun x => pof x rr.2) c
              unfold addR
              rw [zS c a b]
              split
              · dsimp only; rw [mtpo]
              · rfl
            · have e0 : zc s8 116 (addR (s8 116) (10 * C 10 i) (fun x => pof x (mt s8))) 125 x = 0 := by rw [fz.cell 125 (by decide)]; exact z125 x a b
              exact ⟨by omega, fun _ => ⟨e0, by rw [emt, mtpo, mgot, if_pos htk, hrr]⟩, fun q => absurd htk q⟩
        · have hps : psum (m.1 (C 9 i)) < C 11 i := by omega
          have hfl : mfail C i m = true := by unfold mfail; simp [hps, htk]
          have em : mact C F t fo i m = m := by rw [mact, if_pos htk, if_pos hps]
          exact ⟨by rw [hfl]; rfl, by rw [em]; exact R1, fr1, ⟨by omega, by omega⟩, (by rw [mt0 v54]; exact fun q hq => by cases hq), by rw [mt0 v54, psum_nil]; omega, fun q => by rw [hfl] at q; exact absurd q (by decide)⟩
      have fs4 : Fr [122, 123, 124, 125] [(82, 54)] σ s4 := (fρ.mo (by decide) (by decide)).tr (f4.mo (by decide) (by decide))
      obtain ⟨R4, fC4, ⟨v86, v87, v88, v89, v95, v85, v84⟩, vfo, v3, fr4⟩ := st s4 fs4
      rw [v86, v95, v88, v85]
      refine ⟨l1, fun k1 => ⟨l1, fun g0 => ?_, fun g0 => ?_⟩, fun k1 => ?_⟩
      · exact body 0 s4 f4 (fun _ => by rw [endF, if_neg (fun q => q.2.1 g0)])
      · have lq := l5 (by omega)
        refine ⟨l1, lq, cI (hF (d := d + 2) s4 m k 103 (C 6 (C 10 i)) i t (Or.inr (Or.inr rfl)) fC4 R4 hm hmn hl0) ?_⟩
        rintro r13 s12 ⟨q1, -, -, f12⟩
        refine ⟨fun q => body 0 s12 (f4.tr f12) (fun _ => ?_), fun q => body 1 s12 (f4.tr f12) (fun _ => ?_)⟩
        · rw [endF, if_neg (fun z => z.2.2 (by rw [← q1]; exact q))]
        · rw [endF, if_pos ⟨k1, g0, by rw [← q1]; exact q⟩]
      · obtain ⟨T, a, b⟩ := body 0 s4 f4 (fun q => absurd q k1)
        refine ⟨T, a, fun r7 s6 q => ?_⟩
        obtain ⟨c1, c2, c3⟩ := b r7 s6 q
        refine ⟨c1, fun hle => ?_, c3⟩
        obtain ⟨d1, T2, d2, d3⟩ := c2 hle
        exact ⟨d1, T2, d2, fun s8 q8 => ⟨(d3 s8 q8).1, fun h1 => by
          obtain ⟨T3, g1, g2⟩ := (d3 s8 q8).2.1 h1
          exact ⟨T3, g1, g2⟩, (d3 s8 q8).2.2⟩⟩
  have loop : ∀ (q j : Nat) (f : Int → Int), j + q = 10 → (∀ x : Int, 0 ≤ x → x < j → f x = 0) → am_E Ln (d + 7) 202 15 [vR 82, vI i, vI t, vI (C 9 i), vI (j : Int), vU] [] (zc (am_up σ 82 54 0) 125 f) (am_rI (xacts C F t fo i m σ)) := by
    intro q
    induction q with
    | zero =>
      intro j f hj h
      obtain rfl : j = 10 := by omega
      exact main _ (Fr.cl (Fr.up Fr.rf (Or.inr (by decide))) (by decide)) (by rw [zc_ne (by decide), am_up_eq, if_pos rfl]) (fun x a b => by rw [zc_eq]; exact h x a (by omega))
    | succ q ih =>
      intro j f hj h
      refine vl_X12_acts_15 _ _ _ _ _ ⟨fun q => absurd q (by omega), fun _ => ⟨⟨by omega, by omega⟩, ?_⟩⟩
      rw [up_zcs, w32_id (by omega) (by omega)]
      exact ih (j + 1) (fu f j 0) (by omega) (fun x a b => by
        by_cases e : x = j
        · rw [e, fu_eq]
        · rw [fu_ne e]; exact h x a (by omega))
  have key := loop 10 0 (am_up σ 82 54 0 125) (by omega) (fun x a b => by omega)
  rw [zc_self] at key
  refine vm_X12_acts _ _ _ ⟨l1, ?_⟩
  rw [e87, b87]
  exact key
