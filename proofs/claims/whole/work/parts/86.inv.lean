/-! the invariant of both objects -/
def dsj (cs : List Nat) (fs : List (Nat × Int)) (cl : List Nat) (fl : List (Nat × Int)) : Bool := cl.all (fun c => !cs.contains c && !(fs.map Prod.fst).contains c) && fl.all (fun q => !cs.contains q.1 && !fs.contains q)
theorem dsj_c {cs : List Nat} {fs : List (Nat × Int)} {cl : List Nat} {fl : List (Nat × Int)} {σ σ' : AS} (h : dsj cs fs cl fl = true) (hf : Fr cs fs σ σ') : (∀ c ∈ cl, σ' c = σ c) ∧ ∀ q ∈ fl, σ' q.1 q.2 = σ q.1 q.2 := by
  unfold dsj at h
  simp only [Bool.and_eq_true, List.all_eq_true, Bool.not_eq_true', List.contains_eq_mem, decide_eq_false_iff_not] at h
  exact ⟨fun c hc => hf.cell c (h.1 c hc), fun q hq => hf.fld q.1 q.2 (h.2 q hq)⟩
def BKC : List Nat := [84, 5, 85, 6, 86, 8, 87, 9, 88, 10, 89, 11, 90, 13, 91, 14, 92, 15, 93, 16, 94, 17, 95, 12, 109, 20, 110, 21, 111, 22, 112, 23]
def BKF : List (Nat × Int) := [(82, 1), (2, 1), (82, 2), (1, 10), (82, 3), (1, 11), (82, 4), (4, 2), (82, 5), (1, 12), (82, 6), (7, 11), (82, 7), (24, 14), (82, 8), (19, 4), (82, 9), (76, 3), (82, 10), (70, 6)]
theorem BK_cg {σ σ' : AS} (hc : ∀ c ∈ BKC, σ' c = σ c) (hf : ∀ q ∈ BKF, σ' q.1 q.2 = σ q.1 q.2) (h : BK σ) : BK σ' := by
  obtain ⟨⟨b84, b85, b86, b87, b88, b89, b90, b91, b92, b93, b94, b95⟩, ⟨b109, b110, b111, b112⟩, f1, f2, f3, f4, f5, f6, f7, f8, f9, f10⟩ := h
  exact ⟨⟨by rw [hc 84 (by decide), hc 5 (by decide)]; exact b84, by rw [hc 85 (by decide), hc 6 (by decide)]; exact b85, by rw [hc 86 (by decide), hc 8 (by decide)]; exact b86, by rw [hc 87 (by decide), hc 9 (by decide)]; exact b87, by rw [hc 88 (by decide), hc 10 (by decide)]; exact b88, by rw [hc 89 (by decide), hc 11 (by decide)]; exact b89, by rw [hc 90 (by decide), hc 13 (by decide)]; exact b90, by rw [hc 91 (by decide), hc 14 (by decide)]; exact b91, by rw [hc 92 (by decide), hc 15 (by decide)]; exact b92, by rw [hc 93 (by decide), hc 16 (by decide)]; exact b93, by rw [hc 94 (by decide), hc 17 (by decide)]; exact b94, by rw [hc 95 (by decide), hc 12 (by decide)]; exact b95⟩, ⟨by rw [hc 109 (by decide), hc 20 (by decide)]; exact b109, by rw [hc 110 (by decide), hc 21 (by decide)]; exact b110, by rw [hc 111 (by decide), hc 22 (by decide)]; exact b111, by rw [hc 112 (by decide), hc 23 (by decide)]; exact b112⟩, by rw [hf (82, 1) (by decide), hf (2, 1) (by decide)]; exact f1, by rw [hf (82, 2) (by decide), hf (1, 10) (by decide)]; exact f2, by rw [hf (82, 3) (by decide), hf (1, 11) (by decide)]; exact f3, by rw [hf (82, 4) (by decide), hf (4, 2) (by decide)]; exact f4, by rw [hf (82, 5) (by decide), hf (1, 12) (by decide)]; exact f5, by rw [hf (82, 6) (by decide), hf (7, 11) (by decide)]; exact f6, by rw [hf (82, 7) (by decide), hf (24, 14) (by decide)]; exact f7, by rw [hf (82, 8) (by decide), hf (19, 4) (by decide)]; exact f8, by rw [hf (82, 9) (by decide), hf (76, 3) (by decide)]; exact f9, by rw [hf (82, 10) (by decide), hf (70, 6) (by decide)]; exact f10⟩
def lnC : List Nat := [5, 8, 9, 10, 11, 13, 14, 18]
def lnF : List (Nat × Int) := [(7, 11), (1, 11), (19, 4)]
theorem OKB_cg {σ σ' : AS} {n : Nat} (hc : ∀ c ∈ BKC ++ lnC, σ' c = σ c) (hf : ∀ q ∈ BKF ++ lnF, σ' q.1 q.2 = σ q.1 q.2) (h : OKB σ n) : OKB σ' n := by
  obtain ⟨h1, h2, h3, h4, h5, h6, h7⟩ := h
  have e5 := hc 5 (by decide)
  have e8 := hc 8 (by decide)
  have e9 := hc 9 (by decide)
  have e10 := hc 10 (by decide)
  have e11 := hc 11 (by decide)
  have e13 := hc 13 (by decide)
  have e14 := hc 14 (by decide)
  have e18 := hc 18 (by decide)
  have z7 := hf (7, 11) (by decide)
  have z1 := hf (1, 11) (by decide)
  have z19 := hf (19, 4) (by decide)
  dsimp only at z7 z1 z19
  refine ⟨BK_cg (fun c hcc => hc c (List.mem_append.mpr (Or.inl hcc))) (fun q hq => hf q (List.mem_append.mpr (Or.inl hq))) h1, by rw [z1]; exact h2, h3, by rw [z19]; exact h4, by rw [z7]; exact h5, ?_, fun i a b => ?_⟩
  · unfold SI ahd at h6 ⊢
    rw [z7, e13, e14, e18]
    exact h6
  · rw [z7] at b
    have := h7 i a b
    unfold lv lvn at this ⊢
    rw [e5, e8, e9, e10, e11]
    exact this
theorem OKD_cg {σ σ' : AS} (h13 : σ' 13 = σ 13) (h7 : σ' 7 11 = σ 7 11) (h : OKD σ) : OKD σ' := by
  unfold OKD
  rw [h13, h7]
  exact h
def RBC : List Nat := [25, 26, 27, 28, 29, 30, 31, 32, 33, 34, 35, 96, 97, 98, 99, 100, 101, 102, 103, 104, 105, 106, 107]
theorem RB_cg {σ σ' : AS} {G : Int → GF} (hc : ∀ c ∈ RBC, σ' c = σ c) (hf : σ' 24 14 = σ 24 14) (h : RB σ G) : RB σ' G := by
  unfold RB CL cds at h ⊢
  rw [hf, hc 25 (by decide), hc 26 (by decide), hc 27 (by decide), hc 28 (by decide), hc 29 (by decide), hc 30 (by decide), hc 31 (by decide), hc 32 (by decide), hc 33 (by decide), hc 34 (by decide), hc 35 (by decide), hc 96 (by decide), hc 97 (by decide), hc 98 (by decide), hc 99 (by decide), hc 100 (by decide), hc 101 (by decide), hc 102 (by decide), hc 103 (by decide), hc 104 (by decide), hc 105 (by decide), hc 106 (by decide), hc 107 (by decide)]
  exact h
/-- the numbers, and the holders -/
def NU (σ : AS) (n : Nat) : Prop := (0 ≤ σ 1 10 ∧ σ 1 10 ≤ 3999) ∧ (0 ≤ σ 4 2 ∧ σ 4 2 ≤ 10) ∧ (0 ≤ σ 1 12 ∧ σ 1 12 ≤ 10) ∧ 0 ≤ σ 19 4 ∧ (∀ p : Int, 0 ≤ p → p < 10 → 0 ≤ σ 5 p ∧ (σ 5 p = 0 ∨ σ 5 p < n)) ∧ (0 < σ 4 2 → 0 < n) ∧ ∀ p : Int, 0 ≤ p → p < 10 → σ 121 p = -1
theorem NU_cg {σ σ' : AS} {n : Nat} (h5 : σ' 5 = σ 5) (h121 : σ' 121 = σ 121) (hf : ∀ q ∈ [((1 : Nat), (10 : Int)), (4, 2), (1, 12), (19, 4)], σ' q.1 q.2 = σ q.1 q.2) (h : NU σ n) : NU σ' n := by
  have z1 := hf (1, 10) (by decide)
  have z2 := hf (4, 2) (by decide)
  have z3 := hf (1, 12) (by decide)
  have z4 := hf (19, 4) (by decide)
  dsimp only at z1 z2 z3 z4
  unfold NU
  rw [h5, h121, z1, z2, z3, z4]
  exact h
/-- the tape -/
def TP (σ : AS) : Prop := (0 ≤ σ 2 1 ∧ σ 2 1 ≤ 400) ∧ ∀ i : Int, 0 ≤ i → i < σ 2 1 → (0 ≤ σ 3 i ∧ σ 3 i < 256) ∧ bAnd (σ 83 i) 255 = σ 3 i
theorem TP_cg {σ σ' : AS} (h3 : σ' 3 = σ 3) (h83 : σ' 83 = σ 83) (h2 : σ' 2 1 = σ 2 1) (h : TP σ) : TP σ' := by
  unfold TP
  rw [h3, h83, h2]
  exact h
/-- the choices -/
def cn0 (w : Int → Int) : Nat → Int
  | 0 => 0
  | k + 1 => cn0 w k + (if w k = 0 then 0 else 1)
def CH (σ : AS) : Prop := σ 129 = σ 71 ∧ (∀ p : Int, 0 ≤ p → p < 10 → (0 ≤ σ 71 p ∧ σ 71 p < 32) ∧ (σ 4 2 ≤ p → σ 71 p = 0)) ∧ σ 70 4 = cn0 (σ 71) 10 ∧ σ 70 4 ≤ 4
theorem CH_cg {σ σ' : AS} (h71 : σ' 71 = σ 71) (h129 : σ' 129 = σ 129) (h42 : σ' 4 2 = σ 4 2) (h70 : σ' 70 4 = σ 70 4) (h : CH σ) : CH σ' := by
  unfold CH
  rw [h71, h129, h42, h70]
  exact h
/-- what bars what -/
def brd (σ : AS) (k : Int) (a b : Int) : Bool := (rl k (fun i => decide ((5 * σ 130 i + σ 131 i = a ∧ 5 * σ 132 i + σ 133 i = b) ∨ (5 * σ 130 i + σ 131 i = b ∧ 5 * σ 132 i + σ 133 i = a)))).any id
def BA (σ : AS) : Prop := (0 ≤ σ 70 6 ∧ σ 70 6 ≤ 40) ∧ (∀ i : Int, 0 ≤ i → i < σ 70 6 → (0 ≤ σ 130 i ∧ σ 130 i < 10) ∧ (0 ≤ σ 131 i ∧ σ 131 i < 5) ∧ (0 ≤ σ 132 i ∧ σ 132 i < 10) ∧ (0 ≤ σ 133 i ∧ σ 133 i < 5)) ∧
  ∀ a : Int, 0 ≤ a → a < 50 → ∃ x : Nat, σ 72 a = x ∧ x < 2 ^ 50 ∧ ∀ b : Nat, b < 50 → x.testBit b = brd σ (σ 70 6) a b
def BAC : List Nat := [72, 130, 131, 132, 133]
theorem BA_cg {σ σ' : AS} (hc : ∀ c ∈ BAC, σ' c = σ c) (h70 : σ' 70 6 = σ 70 6) (h : BA σ) : BA σ' := by
  unfold BA brd
  rw [hc 72 (by decide), hc 130 (by decide), hc 131 (by decide), hc 132 (by decide), hc 133 (by decide), h70]
  exact h
/-- the debts -/
def DE (σ : AS) (n : Nat) : Prop := (0 ≤ σ 76 3 ∧ σ 76 3 ≤ 40) ∧ (σ 134 = σ 77 ∧ σ 136 = σ 78 ∧ σ 137 = σ 79) ∧ ∀ i : Int, 0 ≤ i → i < σ 76 3 → (0 ≤ σ 77 i ∧ σ 77 i < n) ∧ (1 ≤ σ 78 i ∧ σ 78 i ≤ 1000000) ∧ (0 ≤ σ 79 i ∧ σ 79 i < 4)
def DEC : List Nat := [77, 78, 79, 134, 136, 137]
theorem DE_cg {σ σ' : AS} {n : Nat} (hc : ∀ c ∈ DEC, σ' c = σ c) (h76 : σ' 76 3 = σ 76 3) (h : DE σ n) : DE σ' n := by
  unfold DE
  rw [hc 77 (by decide), hc 78 (by decide), hc 79 (by decide), hc 134 (by decide), hc 136 (by decide), hc 137 (by decide), h76]
  exact h
/-- who buys a thing buys one that there is -/
def TH (σ : AS) : Prop := ∀ i : Int, 0 ≤ i → i < σ 7 11 → (σ 8 i = 3 → σ 10 i < σ 1 12) ∧ σ 14 i ≤ σ 15 i
theorem TH_cg {σ σ' : AS} (h7 : σ' 7 11 = σ 7 11) (h12 : σ 1 12 ≤ σ' 1 12) (h8 : σ' 8 = σ 8) (h10 : σ' 10 = σ 10) (h14 : σ' 14 = σ 14) (h15 : σ' 15 = σ 15) (h : TH σ) : TH σ' := by
  intro i a b
  rw [h7] at b
  rw [h8, h10, h14, h15]
  have := h i a b
  exact ⟨fun c => by have := this.1 c; omega, this.2⟩
def INV (σ : AS) (n : Nat) (G : Int → GF) : Prop := OKB σ n ∧ OKD σ ∧ RB σ G ∧ NU σ n ∧ TP σ ∧ CH σ ∧ BA σ ∧ DE σ n ∧ TH σ
def IVC : List Nat := 0 :: BKC ++ lnC ++ RBC ++ [13, 5, 121, 3, 83, 71, 129] ++ BAC ++ DEC
def IVF : List (Nat × Int) := BKF ++ lnF ++ [(24, 14), (1, 10), (4, 2), (1, 12), (19, 4), (2, 1), (70, 4), (70, 6), (76, 3), (7, 11)]
theorem INV_cg {σ σ' : AS} {n : Nat} {G : Int → GF} (hc : ∀ c ∈ IVC, σ' c = σ c) (hf : ∀ q ∈ IVF, σ' q.1 q.2 = σ q.1 q.2) (h : INV σ n G) : INV σ' n G := by
  obtain ⟨h1, h2, h3, h4, h5, h6, h7, h8⟩ := h
  have s1 : ∀ c ∈ BKC ++ lnC, c ∈ IVC := by decide
  have s2 : ∀ q ∈ BKF ++ lnF, q ∈ IVF := by decide
  have s3 : ∀ c ∈ RBC, c ∈ IVC := by decide
  have s4 : ∀ c ∈ BAC, c ∈ IVC := by decide
  have s5 : ∀ c ∈ DEC, c ∈ IVC := by decide
  have s6 : ∀ q ∈ [((1 : Nat), (10 : Int)), (4, 2), (1, 12), (19, 4)], q ∈ IVF := by decide
  exact ⟨OKB_cg (fun c hcc => hc c (s1 c hcc)) (fun q hq => hf q (s2 q hq)) h1, OKD_cg (hc 13 (by decide)) (hf (7, 11) (by decide)) h2, RB_cg (fun c hcc => hc c (s3 c hcc)) (hf (24, 14) (by decide)) h3, NU_cg (hc 5 (by decide)) (hc 121 (by decide)) (fun q hq => hf q (s6 q hq)) h4, TP_cg (hc 3 (by decide)) (hc 83 (by decide)) (hf (2, 1) (by decide)) h5, CH_cg (hc 71 (by decide)) (hc 129 (by decide)) (hf (4, 2) (by decide)) (hf (70, 4) (by decide)) h6, BA_cg (fun c hcc => hc c (s4 c hcc)) (hf (70, 6) (by decide)) h7, DE_cg (fun c hcc => hc c (s5 c hcc)) (hf (76, 3) (by decide)) h8.1, TH_cg (hf (7, 11) (by decide)) (Int.le_of_eq (hf (1, 12) (by decide)).symm) (hc 8 (by decide)) (hc 10 (by decide)) (hc 14 (by decide)) (hc 15 (by decide)) h8.2⟩
/-- only scratch has changed -/
theorem INV_fr {σ σ' : AS} {n : Nat} {G : Int → GF} {cs : List Nat} {fs : List (Nat × Int)} (h : INV σ n G) (hf : Fr cs fs σ σ') (hd : dsj cs fs IVC IVF = true) : INV σ' n G := INV_cg (dsj_c hd hf).1 (dsj_c hd hf).2 h
def PR (Ln : Int) (mx : Nat) (ax : List AV) (mm : Nat) (am : List AV) (σ : AS) : Prop := am_M Ln 1000 mx ax σ (am_rI fun r s => s 0 = σ 0 ∧ am_M Ln 1000 mm am s (am_rI fun r' s' => r' = r ∧ s' 0 = σ 0 ∧ ∃ n G, INV s' n G))
