/-- a part behind all others of its purse -/
theorem xput_new {σ : AS} {p o s : Int} (h : XW σ) (hs : 0 < s) (hp : 0 ≤ p ∧ p < 10) (ho : 0 ≤ o ∧ o < 10) (hz : σ 41 3 < 1010) (hn : σ 45 p < 0 ∨ σ 43 (σ 45 p) ≠ o) :
    xput σ p o s (am_up (am_up (am_up (am_up (am_up σ 42 (σ 41 3) p) 43 (σ 41 3) o) 44 (σ 41 3) s) 45 p (σ 41 3)) 41 3 (σ 41 3 + 1)) := by
  obtain ⟨hz0, he, hl⟩ := h
  obtain ⟨n, hn0⟩ : ∃ n, n = σ 41 3 := ⟨_, rfl⟩
  rw [← hn0] at hz0 he hl hz ⊢
  obtain ⟨σ', hσ⟩ : ∃ σ', σ' = am_up (am_up (am_up (am_up (am_up σ 42 n p) 43 n o) 44 n s) 45 p n) 41 3 (n + 1) := ⟨_, rfl⟩
  rw [← hσ]
  have r41 : σ' 41 3 = n + 1 := by rw [hσ, am_up_eq, if_pos rfl]
  have r42 : ∀ i, σ' 42 i = if i = n then p else σ 42 i := fun i => by
    rw [hσ, am_up_ne (by decide), am_up_ne (by decide), am_up_ne (by decide), am_up_ne (by decide), am_up_eq]
  have r43 : ∀ i, σ' 43 i = if i = n then o else σ 43 i := fun i => by
    rw [hσ, am_up_ne (by decide), am_up_ne (by decide), am_up_ne (by decide), am_up_eq, am_up_ne (by decide)]
  have r44 : ∀ i, σ' 44 i = if i = n then s else σ 44 i := fun i => by
    rw [hσ, am_up_ne (by decide), am_up_ne (by decide), am_up_eq, am_up_ne (by decide), am_up_ne (by decide)]
  have r45 : ∀ i, σ' 45 i = if i = p then n else σ 45 i := fun i => by
    rw [hσ, am_up_ne (by decide), am_up_eq, am_up_ne (by decide), am_up_ne (by decide), am_up_ne (by decide)]
  have hxl : xl σ' = xl σ ++ [(p, o, s)] := by
    unfold xl
    rw [r41, rl_succ _ hz0.1, r42, r43, r44, if_pos rfl, if_pos rfl, if_pos rfl, ← hn0]
    congr 1
    exact rl_congr fun i c0 c1 => by rw [r42, r43, r44, if_neg (by omega), if_neg (by omega), if_neg (by omega)]
  refine ⟨⟨by rw [r41]; omega, fun i b0 b1 => ?_, fun p' b0 b1 => ?_⟩, ?_, fun p' b0 b1 => ?_, ⟨by omega, by omega⟩, fun i b0 => ?_⟩
  · rw [r42, r43, r44]
    by_cases e : i = n
    · rw [if_pos e, if_pos e, if_pos e]; exact ⟨hp, ho, hs⟩
    · rw [if_neg e, if_neg e, if_neg e]; exact he i b0 (by omega)
  · rw [r45]
    by_cases e : p' = p
    · rw [if_pos e]
      refine Or.inr ⟨⟨by omega, by omega⟩, by rw [r42, if_pos rfl, e], fun i c0 c1 => by omega⟩
    · rw [if_neg e]
      rcases hl p' b0 b1 with ⟨q0, q1⟩ | ⟨q0, q1, q2⟩
      · refine Or.inl ⟨q0, fun i c0 c1 => ?_⟩
        rw [r42]
        split
        · exact fun q => e q.symm
        · exact q1 i c0 (by omega)
      · refine Or.inr ⟨⟨q0.1, by omega⟩, by rw [r42, if_neg (by omega)]; exact q1, fun i c0 c1 => ?_⟩
        rw [r42]
        split
        · exact fun q => e q.symm
        · exact q2 i c0 (by omega)
  · rw [hσ]
    exact Fr.up (Fr.up (Fr.up (Fr.up (Fr.up Fr.rf (Or.inl (by decide))) (Or.inl (by decide))) (Or.inl (by decide))) (Or.inl (by decide))) (Or.inr (by decide))
  · unfold xp
    rw [hxl, pj_app, pj_cons, pj_nil]
    by_cases e : p' = p
    · subst e
      rw [if_pos rfl, if_pos rfl, lay, if_neg (by omega)]
      rcases hl p' b0 b1 with ⟨q0, q1⟩ | ⟨q0, q1, q2⟩
      · have e0 : pj p' (xl σ) = [] := by
          refine pj_none fun q hq => ?_
          obtain ⟨i, c0, c1, c2⟩ := rl_mem.mp hq
          rw [← c2]
          exact q1 i c0 (by omega)
        rw [e0, layR_nil]
        rfl
      · have hx : pj p' (xl σ) = pj p' (rl (σ 45 p') (fun i => (σ 42 i, σ 43 i, σ 44 i))) ++ [(σ 43 (σ 45 p'), σ 44 (σ 45 p'))] := by
          unfold xl
          rw [rl_at (fun i => (σ 42 i, σ 43 i, σ 44 i)) q0.1 (by omega : σ 45 p' < σ 41 3), pj_app, pj_cons, if_pos q1]
          congr 1
          congr 1
          refine pj_none fun q hq => ?_
          obtain ⟨i, c0, c1, c2⟩ := rl_mem.mp hq
          rw [← c2]
          exact q2 _ (by omega) (by omega)
        rw [hx, layR_app, if_neg (by
          show ¬ σ 43 (σ 45 p') = o
          rcases hn with z | z
          · omega
          · exact z), List.append_assoc]
        rfl
    · rw [if_neg e, if_neg (fun q => e q.symm), List.append_nil]
  · rw [r41] at b0
    rw [r42, r43, r44, if_neg (by omega), if_neg (by omega), if_neg (by omega)]
    exact ⟨rfl, rfl, rfl⟩
theorem sp_put {Ln : Int} {d : Nat} {σ : AS} {p o s : Int} (h : XW σ) (hp : 0 ≤ p ∧ p < 10) (ho : 0 ≤ o ∧ o < 10) (hz : σ 41 3 < 1010) (hB : psum (xp σ p) ≤ 1000000000) (hs : s ≤ 1000000000) : am_M Ln (d + 1) 76 [vR 41, vI p, vI o, vI s] σ (am_rV (xput σ p o s)) := by
  have hl := h.2.2 p hp.1 hp.2
  have hz0 := h.1
  refine vm_X9_put σ p o s ⟨fun h0 => ⟨hp, fun h1 => ⟨fun h2 => absurd h2 (by omega), fun _ => ⟨⟨by omega, by omega⟩, ⟨by omega, by omega⟩, ⟨by omega, by omega⟩, hp, ?_⟩⟩, fun h1 => ?_⟩, fun h0 => xput_0 h (by omega)⟩
  · rw [w32_id (by omega) (by omega)]
    exact xput_new h h0 hp ho hz (Or.inl h1)
  · have hat : 0 ≤ σ 45 p ∧ σ 45 p < σ 41 3 := by
      rcases hl with ⟨q, -⟩ | ⟨q, -⟩
      · omega
      · exact q
    have hpp : σ 42 (σ 45 p) = p := by
      rcases hl with ⟨q, -⟩ | ⟨-, q, -⟩
      · omega
      · exact q
    refine ⟨⟨by omega, by omega⟩, fun h2 => ⟨⟨by omega, by omega⟩, ⟨by omega, by omega⟩, ?_⟩, fun h2 => ⟨fun h3 => absurd h3 (by omega), fun _ => ⟨⟨by omega, by omega⟩, ⟨by omega, by omega⟩, ⟨by omega, by omega⟩, hp, ?_⟩⟩⟩
    · have h3 := xp_le h hat.1 hat.2
      have h4 := (h.2.1 _ hat.1 hat.2).2.2
      rw [hpp] at h3
      rw [w32_id (by omega) (by omega)]
      exact xput_join h h0 hp hat.1 h2
    · rw [w32_id (by omega) (by omega)]
      exact xput_new h h0 hp ho hz (Or.inr h2)
