/-! the tape is fed -/
theorem by_core (b : Int32) : (b.toInt8.toInt32) &&& 255 = b &&& 255 := by
  apply Int32.toBitVec_inj.mp
  show ((b.toBitVec.signExtend 8).signExtend 32) &&& 255#32 = b.toBitVec &&& 255#32
  have hm : ∀ i : Fin 32, 8 ≤ i.val → (255#32).getLsbD i.val = false := by decide +kernel
  apply BitVec.eq_of_getLsbD_eq
  intro i hi
  rw [BitVec.getLsbD_and, BitVec.getLsbD_and]
  by_cases h : i < 8
  · rw [BitVec.getLsbD_signExtend, BitVec.getLsbD_signExtend]
    simp [h, hi, show i < 32 by omega]
  · rw [hm ⟨i, hi⟩ (Nat.le_of_not_lt h), Bool.and_false, Bool.and_false]
theorem by_w8 (x : Int) : bAnd (w8 x) 255 = bAnd x 255 := by
  unfold bAnd w8
  rw [Int32.ofInt_toInt]
  exact congrArg Int32.toInt (by_core _)
theorem by_rg (x : Int) : 0 ≤ bAnd x 255 ∧ bAnd x 255 < 256 := by
  show 0 ≤ (BitVec.ofInt 32 x &&& 255#32).toInt ∧ (BitVec.ofInt 32 x &&& 255#32).toInt < 256
  have h : (BitVec.ofInt 32 x &&& 255#32).toNat < 256 := by
    rw [BitVec.toNat_and]
    have := Nat.and_le_right (n := (BitVec.ofInt 32 x).toNat) (m := (255#32).toNat)
    have e : (255#32).toNat = 255 := rfl
    omega
  rw [BitVec.toInt_eq_toNat_of_lt (by omega)]
  omega
def byX (q : Int × Int) : Int := bAnd (bShr q.1 q.2) 255
def byM (q : Int × Int) : Int := w8 (w8 (bShr q.1 q.2))
theorem by_ok (q : Int × Int) : (0 ≤ byX q ∧ byX q < 256) ∧ bAnd (byM q) 255 = byX q := ⟨by_rg _, by unfold byM byX; rw [by_w8, by_w8]⟩
def stp (c e : Nat) (k : Int) (σ : AS) (v : Int) : AS := am_up (am_up σ c (σ e k) v) e k (w32 (σ e k + 1))
def wsh (a : Int) : List (Int × Int) := [(a, 24), (a, 16), (a, 8), (a, 0)]
theorem stps {c e : Nat} {k : Int} (hce : c ≠ e) (b : Int × Int → Int) : ∀ (L : List (Int × Int)) (σ s : AS) (z : Int), s = L.foldl (fun s q => stp c e k s (b q)) σ → σ e k = z → 0 ≤ z → z + L.length ≤ 1000 → s e k = z + L.length ∧ Fr [c] [(e, k)] σ s ∧ ∀ i, s c i = if z ≤ i ∧ i < z + L.length then b (L.getD (i - z).toNat (0, 0)) else σ c i
  | [], σ, s, z, hs, h0, h1, h2 => by
    subst hs
    refine ⟨by rw [h0, List.length_nil]; omega, Fr.rf, fun i => ?_⟩
    rw [if_neg (by rw [List.length_nil]; omega)]
  | q :: L, σ, s, z, hs, h0, h1, h2 => by
    rw [List.length_cons] at h2
    rw [List.foldl_cons] at hs
    have e1 : stp c e k σ (b q) e k = z + 1 := by unfold stp; rw [am_up_eq, if_pos rfl, h0, w32_id (by omega) (by omega)]
    obtain ⟨g1, g2, g3⟩ := stps hce b L (stp c e k σ (b q)) s (z + 1) hs e1 (by omega) (by omega)
    refine ⟨by rw [g1, List.length_cons]; omega, Fr.tr (Fr.up (Fr.up Fr.rf (Or.inl (by simp))) (Or.inr (by simp))) g2, fun i => ?_⟩
    rw [g3 i, List.length_cons]
    have e2 : stp c e k σ (b q) c i = if i = z then b q else σ c i := by unfold stp; rw [am_up_ne hce, am_up_eq, h0]
    rw [e2]
    by_cases hi : i = z
    · subst hi
      rw [if_neg (by omega), if_pos rfl, if_pos (by omega), show (i - i).toNat = 0 by omega]
      rfl
    · rw [if_neg hi]
      by_cases hj : z + 1 ≤ i ∧ i < z + 1 + L.length
      · rw [if_pos hj, if_pos (by omega), show (i - z).toNat = (i - (z + 1)).toNat + 1 by omega]
        rfl
      · rw [if_neg hj, if_neg (by omega)]
theorem stp_sz {c e : Nat} {k : Int} {σ : AS} {v z : Int} (h : σ e k = z) (h1 : 0 ≤ z) (h2 : z < 1000) : stp c e k σ v e k = z + 1 := by unfold stp; rw [am_up_eq, if_pos rfl, h, w32_id (by omega) (by omega)]
section FD
variable {Ln : Int} {d : Nat}
theorem lp_append {a : Int} {Q : Option AV → AS → Prop} : ∀ (j : Nat) (σ : AS) (x : Int), x = 8 * (j : Int) - 8 → j ≤ 4 → 0 ≤ σ 2 1 → σ 2 1 + j ≤ 400 → Q none (((wsh a).drop (4 - j)).foldl (fun s q => stp 3 2 1 s (byX q)) σ) → am_E Ln d 89 3 [vR 2, vI a, vI x] [] σ Q
  | 0, σ, x, hx, hj, h0, h1, hQ => vl_X10_append_3 _ _ _ ⟨fun _ => hQ, fun h => absurd (by omega) h⟩
  | j + 1, σ, x, hx, hj, h0, h1, hQ => by
    refine vl_X10_append_3 _ _ _ ⟨fun h => absurd h (by omega), fun _ => ⟨fun h => absurd h (by omega), fun _ => ⟨⟨h0, by omega⟩, ?_⟩⟩⟩
    have e : ((wsh a).drop (4 - (j + 1))) = (a, x) :: (wsh a).drop (4 - j) := by
      have : j = 0 ∨ j = 1 ∨ j = 2 ∨ j = 3 := by omega
      rcases this with rfl | rfl | rfl | rfl <;> subst hx <;> rfl
    rw [e, List.foldl_cons] at hQ
    have z1 := stp_sz (c := 3) (v := byX (a, x)) (rfl : σ 2 1 = σ 2 1) h0 (by omega)
    exact lp_append j (stp 3 2 1 σ (byX (a, x))) (w32 (x + (-8))) (by rw [w32_id (by omega) (by omega)]; omega) (by omega) (by omega) (by omega) hQ
theorem lp_push {a : Int} {Q : Option AV → AS → Prop} : ∀ (j : Nat) (σ : AS) (x : Int), x = 8 * (j : Int) - 8 → j ≤ 4 → 0 ≤ σ 82 1 → σ 82 1 + j ≤ 400 → Q none (((wsh a).drop (4 - j)).foldl (fun s q => stp 83 82 1 s (byM q)) σ) → am_E Ln d 150 3 [vR 82, vI a, vI x] [] σ Q
  | 0, σ, x, hx, hj, h0, h1, hQ => vl_X12_push_3 _ _ _ ⟨fun _ => hQ, fun h => absurd (by omega) h⟩
  | j + 1, σ, x, hx, hj, h0, h1, hQ => by
    refine vl_X12_push_3 _ _ _ ⟨fun h => absurd h (by omega), fun _ => ⟨⟨h0, by omega⟩, ?_⟩⟩
    have e : ((wsh a).drop (4 - (j + 1))) = (a, x) :: (wsh a).drop (4 - j) := by
      have : j = 0 ∨ j = 1 ∨ j = 2 ∨ j = 3 := by omega
      rcases this with rfl | rfl | rfl | rfl <;> subst hx <;> rfl
    rw [e, List.foldl_cons] at hQ
    have z1 := stp_sz (c := 83) (v := byM (a, x)) (rfl : σ 82 1 = σ 82 1) h0 (by omega)
    exact lp_push j (stp 83 82 1 σ (byM (a, x))) (w32 (x + (-8))) (by rw [w32_id (by omega) (by omega)]; omega) (by omega) (by omega) (by omega) hQ
theorem sp_append {a : Int} {σ : AS} (h0 : 0 ≤ σ 2 1) (h1 : σ 2 1 + 4 ≤ 400) : am_M Ln (d + 1) 89 [vR 2, vI a] σ (am_rV fun s => s = (wsh a).foldl (fun s q => stp 3 2 1 s (byX q)) σ ∧ s 2 1 = σ 2 1 + 4) := by
  refine vm_X10_append _ _ (lp_append 4 σ 24 rfl (by omega) h0 h1 ?_)
  exact ⟨rfl, (stps (by decide) byX (wsh a) σ _ _ rfl rfl h0 (by show σ 2 1 + 4 ≤ 1000; omega)).1⟩
theorem sp_push {a : Int} {σ : AS} (h0 : 0 ≤ σ 82 1) (h1 : σ 82 1 + 4 ≤ 400) : am_M Ln (d + 1) 150 [vR 82, vI a] σ (am_rV fun s => s = (wsh a).foldl (fun s q => stp 83 82 1 s (byM q)) σ ∧ s 82 1 = σ 82 1 + 4) := by
  refine vm_X12_push _ _ (lp_push 4 σ 24 rfl (by omega) h0 h1 ?_)
  exact ⟨rfl, (stps (by decide) byM (wsh a) σ _ _ rfl rfl h0 (by show σ 82 1 + 4 ≤ 1000; omega)).1⟩
end FD
def fdL (a b c e f : Int) : List (Int × Int) := wsh a ++ wsh b ++ wsh c ++ wsh e ++ wsh f
theorem pr_feed {Ln : Int} {σ : AS} {n : Nat} {G : Int → GF} (hI : INV σ n G) (a b c e f : Int) : PR Ln 100 [vR 1, vI a, vI b, vI c, vI e, vI f] 151 [vR 82, vI a, vI b, vI c, vI e, vI f] σ := by
  obtain ⟨h1, h2, h3, h4, h5, h6, h7, h8⟩ := id hI
  have e1 : σ 82 1 = σ 2 1 := h1.1.2.2.1
  obtain ⟨⟨t1, t2⟩, t3⟩ := id h5
  obtain ⟨z, hz⟩ : ∃ z, z = σ 2 1 := ⟨_, rfl⟩
  obtain ⟨ρ, hρ⟩ : ∃ ρ, ρ = (fdL a b c e f).foldl (fun s q => stp 3 2 1 s (byX q)) σ := ⟨_, rfl⟩
  obtain ⟨τ, hτ⟩ : ∃ τ, τ = (fdL a b c e f).foldl (fun s q => stp 83 82 1 s (byM q)) ρ := ⟨_, rfl⟩
  by_cases hc : z + 20 ≤ 400
  · obtain ⟨r1, r2, r3⟩ := stps (by decide) byX (fdL a b c e f) σ ρ z hρ hz.symm (by omega) (by show z + 20 ≤ 1000; omega)
    have e82 : ρ 82 1 = z := by rw [r2.fld 82 1 (by decide), e1, hz]
    obtain ⟨s1, s2, s3⟩ := stps (by decide) byM (fdL a b c e f) ρ τ z hτ e82 (by omega) (by show z + 20 ≤ 1000; omega)
    have el : ((fdL a b c e f).length : Int) = 20 := rfl
    rw [el] at r1 r3 s1 s3
    have fτ : Fr [3, 83] [(2, 1), (82, 1)] σ τ := Fr.tr (r2.mo (by decide) (by decide)) (s2.mo (by decide) (by decide))
    have u21 : τ 2 1 = z + 20 := by rw [s2.fld 2 1 (by decide), r1]
    refine pr_up (c := True) (v := z + 20) (w := -1) (σu := ρ) (σw := τ) hI (r2.cell 0 (by decide)) (fτ.cell 0 (by decide)) ?_ (fun _ => ?_) (fun h => absurd trivial h) (fun _ => ⟨n, G, ?_⟩)
    · refine vm_X11_feed _ _ _ _ _ _ (cI (P := fun r s => r = 1 ∧ s = σ) (vm_X10_hasRoom _ ?_) ?_)
      · rw [← hz, w32_id (by omega) (by omega)]
        exact ⟨fun h => absurd h (by omega), fun _ => ⟨am_b1, rfl, rfl⟩⟩
      · rintro r s ⟨rfl, rfl⟩
        refine ⟨fun h => absurd h (by decide), fun _ => ?_⟩
        refine cV (sp_append (by omega) (by omega)) ?_
        rintro p1 ⟨p1e, p1z⟩
        refine cV (sp_append (by omega) (by omega)) ?_
        rintro p2 ⟨p2e, p2z⟩
        refine cV (sp_append (by omega) (by omega)) ?_
        rintro p3 ⟨p3e, p3z⟩
        refine cV (sp_append (by omega) (by omega)) ?_
        rintro p4 ⟨p4e, p4z⟩
        refine cV (sp_append (by omega) (by omega)) ?_
        rintro p5 ⟨p5e, p5z⟩
        have : p5 = ρ := by
          rw [hρ, p5e, p4e, p3e, p2e, p1e]
          unfold fdL
          rw [List.foldl_append, List.foldl_append, List.foldl_append, List.foldl_append]
        subst this
        exact ⟨fun _ => ⟨r1, rfl⟩, fun h => absurd trivial h⟩
    · refine vm_X12_feed _ _ _ _ _ _ ?_
      rw [e82, w32_id (by omega) (by omega)]
      refine ⟨fun _ => ?_, fun h => absurd hc h⟩
      refine cV (sp_push (by omega) (by omega)) ?_
      rintro p1 ⟨p1e, p1z⟩
      refine cV (sp_push (by omega) (by omega)) ?_
      rintro p2 ⟨p2e, p2z⟩
      refine cV (sp_push (by omega) (by omega)) ?_
      rintro p3 ⟨p3e, p3z⟩
      refine cV (sp_push (by omega) (by omega)) ?_
      rintro p4 ⟨p4e, p4z⟩
      refine cV (sp_push (by omega) (by omega)) ?_
      rintro p5 ⟨p5e, p5z⟩
      have : p5 = τ := by
        rw [hτ, p5e, p4e, p3e, p2e, p1e]
        unfold fdL
        rw [List.foldl_append, List.foldl_append, List.foldl_append, List.foldl_append]
      subst this
      exact ⟨s1, rfl⟩
    · refine ⟨OKB_up h1 (BK_up [] [((82, 1), (2, 1))] h1.1 fτ (by decide) (by decide) no_mem (one_mem (by show τ 82 1 = τ 2 1; rw [s1, u21]))) (by rw [fτ.fld 1 11 (by decide)]; exact h1.2.1) (Nat.le_refl n) h1.2.2.1 (by rw [fτ.fld 19 4 (by decide)]; exact h1.2.2.2.1) (fτ.fld 7 11 (by decide)) (fτ.cs _ (by decide)) (by rw [fτ.cell 5 (by decide)]; exact OKB_5 h1), OKD_cg (fτ.cell 13 (by decide)) (fτ.fld 7 11 (by decide)) h2, RB_cg (fτ.cs RBC (by decide)) (fτ.fld 24 14 (by decide)) h3, NU_cg (fτ.cell 5 (by decide)) (fτ.cell 121 (by decide)) (fτ.fls _ (by decide)) h4, ⟨by rw [u21]; omega, fun i ha hb => ?_⟩, CH_cg (fτ.cell 71 (by decide)) (fτ.cell 129 (by decide)) (fτ.fld 4 2 (by decide)) (fτ.fld 70 4 (by decide)) h6, BA_cg (fτ.cs BAC (by decide)) (fτ.fld 70 6 (by decide)) h7, DE_cg (fτ.cs DEC (by decide)) (fτ.fld 76 3 (by decide)) h8.1, TH_cg (fτ.fld 7 11 (by decide)) (Int.le_of_eq (fτ.fld 1 12 (by decide)).symm) (fτ.cell 8 (by decide)) (fτ.cell 10 (by decide)) (fτ.cell 14 (by decide)) (fτ.cell 15 (by decide)) h8.2⟩
      rw [u21] at hb
      rw [s2.cell 3 (by decide), r3 i, s3 i, r2.cell 83 (by decide)]
      by_cases hi : z ≤ i ∧ i < z + 20
      · rw [if_pos hi, if_pos hi]
        exact by_ok _
      · rw [if_neg hi, if_neg hi]
        exact t3 i ha (by omega)
  · refine pr_up (c := False) (v := 0) (w := -1) (σu := σ) (σw := σ) hI rfl rfl ?_ (fun h => absurd h id) (fun _ => ?_) (fun h => absurd h id)
    · refine vm_X11_feed _ _ _ _ _ _ (cI (P := fun r s => r = 0 ∧ s = σ) (vm_X10_hasRoom _ ?_) ?_)
      · rw [← hz, w32_id (by omega) (by omega)]
        exact ⟨fun _ => ⟨am_b0, rfl, rfl⟩, fun h => absurd (by omega) h⟩
      · rintro r s ⟨rfl, rfl⟩
        exact ⟨fun _ => upN id, fun h => absurd rfl h⟩
    · refine vm_X12_feed _ _ _ _ _ _ ?_
      rw [e1, ← hz, w32_id (by omega) (by omega)]
      exact ⟨fun h => absurd h hc, fun _ => ⟨rfl, rfl⟩⟩
