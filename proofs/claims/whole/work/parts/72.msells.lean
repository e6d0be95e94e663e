/-! selling and making good, in the model -/
/-- the model's rules answer so -/
def ruM (Ln : Int) (n : Nat) (C : AS) (F : FD) : Prop := ∀ (d : Nat) (σ : AS) (m : MS) (k l la i t : Int), (l = 114 ∨ l = 119 ∨ l = 103) → Fr wkX wkF C σ → RM m σ → MI k m → MN n m → lv C i →
  am_M Ln (d + 5) 194 [vR 82, vI l, vI la, vI i, vI t] σ (am_rI fun r σ' => r = F l la (C 13 i) t (facF C i (m.1 (C 9 i))) ∧ (-1 ≤ r ∧ r < 240) ∧ (l = 119 → r ≠ -1 → C 102 r = C 31 r ∧ 0 ≤ C 31 r ∧ C 31 r ≤ 4) ∧ Fr [122, 123, 124] [] σ σ')
def msold (C : AS) (i : Int) (m : MS) (g : Int → Int) (σ σ' : AS) : Prop := Fr [113, 114, 115, 116, 122, 123, 124, 125] [] σ σ' ∧ (∀ p : Int, 0 ≤ p → p < 10 → mp σ' p = if p = C 9 i then layAll (m.1 p) (rl 10 (fun x => (x, g x))) else m.1 p) ∧ (∀ p : Int, 0 ≤ p → p < 10 → 0 ≤ σ' 113 p) ∧
  (∀ c : Int, 0 ≤ c → c < 100 → σ' 116 c = if 10 * C 10 i ≤ c ∧ c < 10 * C 10 i + 10 then 0 else m.2.1 c) ∧ ∀ x : Int, 0 ≤ x → x < 10 → σ' 125 x = g x
set_option maxHeartbeats 4000000 in
theorem sp_msells {Ln : Int} {d : Nat} {C σ : AS} {F : FD} {m : MS} {k i t : Int} {n : Nat} (hB : BK C) (hl : lv C i) (hk4 : C 8 i = 4) (hf : Fr wkX wkF C σ) (hn : C 1 11 = n) (hn2 : n ≤ 10) (hhn : C 5 (C 9 i) < n) (hr : RM m σ) (hm : MI k m) (hmn : MN n m) (hF : ruM Ln n C F) (h125 : ∀ x : Int, 0 ≤ x → x < 10 → σ 125 x = 0) :
    am_M Ln (d + 6) 200 [vR 82, vI i, vI t] σ (am_rV (msold C i m (gnF C F t i m) σ)) := by
  have hl0 := hl
  obtain ⟨l1, l2, l3, l4, l5, l6, l7⟩ := hl
  have lk := l5 (by omega)
  have lh := l7 _ l3.1 l3.2
  have hB0 := hB
  obtain ⟨⟨b84, b85, b86, b87, b88, b89, b90, b91, b92, b93, b94, b95⟩, -, -, -, bn, -⟩ := hB
  have hk0 := hm.1
  obtain ⟨g, hg⟩ : ∃ g, g = gnF C F t i m := ⟨_, rfl⟩
  rw [← hg]
  have e87 := hf.cell 87 (by decide)
  have e88 := hf.cell 88 (by decide)
  have e85 := hf.cell 85 (by decide)
  have e84 := hf.cell 84 (by decide)
  refine vm_X12_sells _ _ _ ⟨l1, l1, ?_⟩
  rw [e87, e88, e85, e84, b87, b88, b85, b84]
  refine ⟨l3, l1, l3, cI (hF (d := d) σ m k 114 (C 6 (C 9 i)) i t (Or.inl rfl) hf hr hm hmn hl0) ?_⟩
  rintro r s1 ⟨r1, -, -, f1⟩
  have r1f : (r = -1 → risF C F t i (m.1 (C 9 i)) = 0) ∧ (¬ r = -1 → risF C F t i (m.1 (C 9 i)) = 1) := by
    unfold risF
    rw [r1]
    exact ⟨fun q => if_neg (fun z => z.2 q), fun q => if_pos ⟨hk4, q⟩⟩
  obtain ⟨ri, hri⟩ : ∃ ri, ri = risF C F t i (m.1 (C 9 i)) := ⟨_, rfl⟩
  rw [← hri] at r1f
  have R1 : RM m s1 := RM_fr hr f1 (by decide)
  have fC : Fr wkX wkF C s1 := hf.tr (f1.mo (by decide) (by decide))
  have z3 : s1 82 3 = n := by rw [fC.fld 82 3 (by decide), bn, hn]
  have z87 : s1 87 = C 9 := by rw [fC.cell 87 (by decide), b87]
  have z89 : s1 89 = C 11 := by rw [fC.cell 89 (by decide), b89]
  have z125 : ∀ x : Int, 0 ≤ x → x < 10 → s1 125 x = 0 := fun x a b => by rw [f1.cell 125 (by decide)]; exact h125 x a b
  obtain ⟨w, hw⟩ : ∃ w, w = shF C i m := ⟨_, rfl⟩
  obtain ⟨h, hh⟩ : ∃ h, h = C 5 (C 9 i) := ⟨_, rfl⟩
  obtain ⟨s, hs⟩ : ∃ s, s = C 11 i := ⟨_, rfl⟩
  obtain ⟨kk, hkk⟩ : ∃ kk, kk = C 10 i := ⟨_, rfl⟩
  rw [← hh] at lh hhn
  rw [← hs] at l4
  rw [← hkk] at lk
  have ew : ∀ x, w x = m.2.1 (10 * kk + x) := fun x => by rw [hw, hkk]; rfl
  have z116 : ∀ x : Int, 0 ≤ x → x < 10 → s1 116 (10 * kk + x) = w x := fun x a b => by rw [ew]; exact R1.2.1 _ (by omega) (by omega)
  have wb : ∀ x : Int, 0 ≤ x → x < 10 → 0 ≤ w x ∧ w x ≤ 100000000 := fun x a b => by rw [ew]; have := (hm.2.2.2 (10 * kk + x) (by omega) (by omega)).1; omega
  have w0 : ∀ x : Int, 0 ≤ x → x < n → 0 ≤ w x := fun x a b => (wb x a (by omega)).1
  have wz : ∀ x : Int, n ≤ x → x < (10 : Nat) → w x = 0 := fun x a b => by rw [ew]; exact hmn.2 kk x lk.1 lk.2 a (by omega)
  have eg : ∀ x, g x = gaiF ri s h w x := fun x => by rw [hg, hri, hs, hh, hw]; rfl
  have gb := gai_bd (ri := ri) (s := s) (h := h) (w := w) (by omega) lh (fun x a b => (wb x a (by omega)).1)
  have gz : ∀ x : Int, n ≤ x → x < 10 → g x = 0 := fun x a b => by rw [eg]; exact gai_z ⟨lh.1, hhn⟩ hn2 w0 wz x ⟨a, b⟩
  have gsm : sm g n ≤ 1000000 := by
    have h1 : sm g 10 = sm g n := sm_short hn2 (fun x a b => gz x a (by omega))
    have h2 : sm g 10 = sm (gaiF ri s h w) 10 := sm_congr (fun x _ _ => eg x)
    omega
  -- the last loop
  have fin : ∀ ρ : AS, Fr [125] [] s1 ρ → (∀ x : Int, 0 ≤ x → x < 10 → ρ 125 x = g x) → am_E Ln (d + 5) 200 240 [vR 82, vI i, vU, vI kk, vU, vU, vU, vU, vI 0] [] ρ (am_rV (msold C i m g σ)) := by
    intro ρ fρ hρ
    have Rρ : RM m ρ := RM_fr R1 fρ (by decide)
    have hP := hm.2.1 _ l3.1 l3.2
    have hpm := (Rρ.1 _ l3.1 l3.2).1
    have hst := lp_mgain (Ln := Ln) (d := d + 4) (σ0 := ρ) (i := i) (p := C 9 i) (k := kk) (g := g) (n := n) l1 l3 lk (by rw [fρ.fld 82 3 (by decide)]; exact z3) hn2 (by rw [fρ.cell 87 (by decide), z87]) (fun x a b => ⟨hρ x a (by omega), by rw [eg]; exact gb.2 x a (by omega)⟩) gsm (fun p' a b => by have := RM_len Rρ hm p' a b; omega) (by rw [hpm]; exact pok_nn hP.1) (by rw [hpm]; omega) n 0 ρ (by omega) ⟨Fr.rf, fun p' a b => by
        rw [show ((0 : Nat) : Int) = 0 from rfl, rl_0, layAll_nil]
        split
        · rename_i ee; rw [ee]
        · rfl, fun p' a b => by have := RM_len Rρ hm p' a b; omega, fun c => by rw [if_neg (by omega)]⟩
    refine am_EV hst ?_
    rintro s2 ⟨y1, y2, y3, y4⟩
    refine ⟨(f1.mo (by decide) (by decide)).tr ((fρ.mo (by decide) (by decide)).tr (y1.mo (by decide) (by decide))), fun p' a b => ?_, fun p' a b => (y3 p' a b).1, fun c a b => ?_, fun x a b => by rw [y1.cell 125 (by decide)]; exact hρ x a b⟩
    · rw [y2 p' a b, layAll_short gz hn2, hpm]
      by_cases ee : p' = C 9 i
      · rw [if_pos ee, if_pos ee, ee]
      · rw [if_neg ee, if_neg ee]; exact (Rρ.1 p' a b).1
    · rw [y4 c, Rρ.2.1 c a b, ← hkk]
      by_cases ee : 10 * kk ≤ c ∧ c < 10 * kk + n
      · rw [if_pos ee, if_pos (by omega)]
      · rw [if_neg ee]
        by_cases e2 : 10 * kk ≤ c ∧ c < 10 * kk + 10
        · rw [if_pos e2]
          have := hmn.2 kk (c - 10 * kk) lk.1 lk.2 (by omega) (by omega)
          rwa [show 10 * kk + (c - 10 * kk) = c by omega] at this
        · rw [if_neg e2]
  -- each gets the share, the holder what is left
  have l184 : ri = 0 → sm w n - w h ≤ s → ∀ (q j : Nat) (f : Int → Int), j + q = n → (∀ x : Int, 0 ≤ x → x < j → f x = g x) → (∀ x : Int, j ≤ x → x < 10 → f x = 0) →
      am_E Ln (d + 5) 200 184 [vR 82, vI i, vU, vI kk, vI h, vU, vU, vI (sm w n - w h), vI (j : Int)] [] (zc s1 125 f) (am_rV (msold C i m g σ)) := by
    intro hri0 hle q
    have hsN := sm_nn w0
    have hwh := wb h lh.1 lh.2
    have hone := sm_one w0 lh.1 hhn
    induction q with
    | zero =>
      intro j f hj h1 h2
      obtain rfl : j = n := by omega
      refine vl_X12_sells_184 _ _ _ _ _ _ ⟨fun _ => fin _ (Fr.cl Fr.rf (by decide)) (fun x a b => ?_), fun q => absurd (by rw [zc_ne (by decide), z3]; omega) q⟩
      rw [zc_eq]
      by_cases e : x < j
      · exact h1 x a e
      · rw [h2 x (by omega) b, gz x (by omega) b]
    | succ q ih =>
      intro j f hj h1 h2
      have step : ∀ v, v = g j → am_E Ln (d + 5) 200 184 [vR 82, vI i, vU, vI kk, vI h, vU, vU, vI (sm w n - w h), vI (w32 ((j : Int) + 1))] [] (am_up (zc s1 125 f) 125 j v) (am_rV (msold C i m g σ)) := by
        intro v hv
        rw [up_zcs, w32_id (by omega) (by omega)]
        have key := ih (j + 1) (fu f j v) (by omega) (fun x a b => by
          by_cases e : x = j
          · rw [e, fu_eq, hv]
          · rw [fu_ne e]; exact h1 x a (by omega)) (fun x a b => by rw [fu_ne (by omega)]; exact h2 x (by omega) b)
        exact key
      refine vl_X12_sells_184 _ _ _ _ _ _ ⟨fun q => absurd q (by rw [zc_ne (by decide), z3]; omega), fun _ => ⟨fun e => ⟨l1, ⟨by omega, by omega⟩, ?_⟩, fun e => ?_⟩⟩
      · rw [zc_ne (by decide), z89, ← hs, w32_id (x := s - (sm w n - w h)) (by omega) (by omega)]
        refine step _ ?_
        rw [eg, gai_d ⟨lh.1, hhn⟩ hn2 w0 wz hri0 hle _ ⟨by omega, by omega⟩, if_pos e]
      · rw [zc_ne (by decide), w32_id (x := 10 * kk) (by omega) (by omega), w32_id (x := 10 * kk + (j : Int)) (by omega) (by omega), z116 j (by omega) (by omega)]
        refine ⟨⟨by omega, by omega⟩, ⟨by omega, by omega⟩, step _ ?_⟩
        rw [eg, gai_d ⟨lh.1, hhn⟩ hn2 w0 wz hri0 hle _ ⟨by omega, by omega⟩, if_neg e]
  -- by parts
  have part : ∀ (z : Int) (ρ : AS), Fr [125] [] s1 ρ → (∀ x : Int, 0 ≤ x → x < 10 → ρ 125 x = 0) → (z < 0 ∨ z = h) → 0 < sm (fun x => if x = z then 0 else w x) n → (∀ x : Int, 0 ≤ x → x < n → g x = pq s (fun x => if x = z then 0 else w x) n x) →
      ∃ T : Option AV → AS → Prop, am_M Ln (d + 5) 199 [vR 82, vI kk, vI s, vI z] ρ T ∧ ∀ s2, T none s2 → am_E Ln (d + 5) 200 240 [vR 82, vI i, vU, vI kk, vU, vU, vU, vU, vI 0] [] s2 (am_rV (msold C i m g σ)) := by
    intro z ρ fρ h0 hz hp hgx
    have e116 : ρ 116 = s1 116 := fρ.cell 116 (by decide)
    have hc : ∀ x : Int, 0 ≤ x → x < n → (fun x => if x = z then 0 else ρ 116 (10 * kk + x)) x = (fun x => if x = z then 0 else w x) x := fun x a b => by
      dsimp only
      rw [e116, z116 x a (by omega)]
    refine cV (sp_partsOut (fun x => if x = z then 0 else ρ 116 (10 * kk + x)) (by rw [fρ.fld 82 3 (by decide)]; exact z3) hn2 lk ⟨by omega, by omega⟩ rfl (fun x a b => by rw [e116, z116 x a (by omega)]; exact wb x a (by omega)) (by rw [sm_congr hc]; exact hp)) ?_
    rintro s2 ⟨f, rfl, u1, u2⟩
    refine fin _ (Fr.cl fρ (by decide)) (fun x a b => ?_)
    rw [zc_eq]
    by_cases e : x < n
    · rw [u1 x a e, pq_congr hc a e, hgx x a e]
    · rw [u2 x (by omega), h0 x a b, gz x (by omega) b]
  have l56 : ∀ (q j : Nat) (f : Int → Int), j + q = n → (∀ x : Int, 0 ≤ x → x < 10 → f x = 0) →
      am_E Ln (d + 5) 200 56 [vR 82, vI i, vU, vI kk, vI h, vI ri, vI (sm w j), vI (j : Int), vU] [] (zc s1 125 f) (am_rV (msold C i m g σ)) := by
    have smb : ∀ j : Nat, j ≤ n → 0 ≤ sm w j ∧ sm w j ≤ 100000000 * j := by
      intro j hj
      induction j with
      | zero => exact ⟨Int.le_refl 0, by rw [sm]; omega⟩
      | succ j ih =>
        have h1 := ih (by omega)
        have h2 := wb j (by omega) (by omega)
        rw [sm]
        omega
    intro q
    induction q with
    | zero =>
      intro j f hj h0
      obtain rfl : j = n := by omega
      have hsN := smb j (Nat.le_refl j)
      have hwh := wb h lh.1 lh.2
      have hone := sm_one w0 lh.1 hhn
      have f0 : Fr [125] [] s1 (zc s1 125 f) := Fr.cl Fr.rf (by decide)
      have h0' : ∀ x : Int, 0 ≤ x → x < 10 → zc s1 125 f 125 x = 0 := fun x a b => by rw [zc_eq]; exact h0 x a b
      refine vl_X12_sells_56 _ _ _ _ _ _ _ ⟨fun _ => ?_, fun q => absurd (by rw [zc_ne (by decide), z3]; omega) q⟩
      have e89 : zc s1 125 f 89 = C 11 := by rw [zc_ne (by decide), z89]
      have e116 : zc s1 125 f 116 (10 * kk + h) = w h := by rw [zc_ne (by decide)]; exact z116 h lh.1 lh.2
      rw [w32_id (x := 10 * kk) (by omega) (by omega), w32_id (x := 10 * kk + h) (by omega) (by omega), e89, ← hs, e116, w32_id (x := sm w j - w h) (by omega) (by omega)]
      refine ⟨⟨by omega, by omega⟩, fun ea => ⟨l1, ⟨by omega, by omega⟩, ?_⟩, fun ea => ⟨fun er => ⟨l1, fun hle => ?_, fun hle => ⟨l1, ?_⟩⟩, fun er => ⟨l1, ?_⟩⟩⟩
      · rw [up_zcs]
        refine fin _ (Fr.cl Fr.rf (by decide)) (fun x a b => ?_)
        rw [zc_eq, eg, gai_a (by omega) ⟨lh.1, hhn⟩ hn2 w0 wz ea, fu]
        by_cases e : x = h
        · rw [if_pos e, if_pos e]
        · rw [if_neg e, if_neg e, h0 x a b]
      · exact l184 er hle j 0 f (by omega) (fun x a b => by omega) (fun x a b => h0 x (by omega) b)
      · have ec : ∀ x : Int, (fun x => if x = h then 0 else w x) x = fu w h 0 x := fun x => rfl
        refine part h _ f0 h0' (Or.inr rfl) ?_ (fun x a b => ?_)
        · rw [sm_congr (fun x _ _ => ec x), sm_fu lh.1 hhn]; omega
        · rw [eg, gai_c ⟨lh.1, hhn⟩ hn2 wz (by omega) er (by omega), pq_congr (fun x _ _ => ec x) a b]
      · have ec : ∀ x : Int, 0 ≤ x → x < j → (fun x => if x = -1 then 0 else w x) x = w x := fun x a b => by dsimp only; rw [if_neg (by omega)]
        refine part (-1) _ f0 h0' (Or.inl (by omega)) ?_ (fun x a b => ?_)
        · rw [sm_congr ec]; omega
        · rw [eg, gai_b hn2 wz (by omega) er, pq_congr ec a b]
    | succ q ih =>
      intro j f hj h0
      have hs1 := smb j (by omega)
      have hs2 := smb (j + 1) (by omega)
      have key := ih (j + 1) (fu f j 0) (by omega) (fun x a b => by unfold fu; split; rfl; exact h0 x a b)
      rw [sm] at key hs2
      refine vl_X12_sells_56 _ _ _ _ _ _ _ ⟨fun q => absurd q (by rw [zc_ne (by decide), z3]; omega), fun _ => ?_⟩
      have e116 : zc s1 125 f 116 (10 * kk + j) = w j := by rw [zc_ne (by decide)]; exact z116 j (by omega) (by omega)
      rw [w32_id (x := 10 * kk) (by omega) (by omega), w32_id (x := 10 * kk + (j : Int)) (by omega) (by omega), e116, up_zcs, w32_id (x := sm w j + w j) (by omega) (by omega), w32_id (x := (j : Int) + 1) (by omega) (by omega)]
      exact ⟨⟨by omega, by omega⟩, ⟨by omega, by omega⟩, key⟩
  have key := l56 n 0 (s1 125) (by omega) z125
  rw [zc_self, sm] at key
  rw [← hkk, ← hh]
  refine ⟨fun q => ?_, fun q => ?_⟩
  · rw [r1f.1 q] at key; exact key
  · rw [r1f.2 q] at key; exact key
