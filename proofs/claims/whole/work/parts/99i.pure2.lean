/-! commands that change nothing: flows -/
section Z2
variable {w h : Int} {sl fo ba su : Int → Int} {M : jm_Mem}
theorem z_W_no {M : jm_Mem} (hW : z_W w h sl M) (h4 : M 42 4 = 0) : M 67 33 = 0 := by
  rcases hW with hW | hW
  · exact hW.2
  · have := hW.1; omega
theorem z_W_ye {M : jm_Mem} (hW : z_W w h sl M) (h4 : M 42 4 ≠ 0) : (1 ≤ M 42 4 ∧ M 42 4 ≤ 3) ∧ M 67 33 = 1 ∧ (∀ e, g_E w h sl e → M 81 e = M 43 e ∧ -1000 ≤ M 43 e ∧ M 43 e ≤ 1000) ∧ (M 82 3 = M 42 5 ∧ M 82 4 = M 42 6 ∧ M 82 0 = M 42 7 ∧ M 82 1 = M 42 8 ∧ M 82 2 = M 42 9) ∧ (M 42 4 = 1 → g_nd w h (M 42 5) ∧ g_nd w h (M 42 6)) ∧ (M 42 4 ≠ 1 → M 42 5 = -1 ∧ ∀ n, g_nd w h n → M 84 n = M 44 n) := by
  rcases hW with hW | hW
  · exact absurd hW.1 h4
  · exact hW
theorem z_on (hS : z_S w h sl fo ba su M) (e : Int) : z_thr 96 [jm_I e] 184 M := by
  obtain ⟨hz, ⟨hT, c4, c5, c6⟩, -, hW, -⟩ := id hS
  by_cases hE : g_E w h sl e
  · obtain ⟨e0, e1, -, -⟩ := g_Eb hz.1.1.1 hE
    by_cases h4 : M 42 4 = 0
    · refine z_mt hS none ?_ ?_
      · intro Q hQ
        refine sc_96 ?_
        rw [e_20 hz.1.1.1 hT]
        exact ⟨_, rfl, fun z => absurd hE (jm_B0.1 z), fun _ => ⟨fun _ => hQ M (z_q_rfl M), fun z => absurd h4 z⟩⟩
      · intro M1 Q S1 q1 hQ
        have h33 : M1 67 33 = 0 := by rw [q1.2 33 (by decide)]; exact z_W_no hW h4
        exact sc_184 ⟨fun _ => ⟨fun _ => hQ _ _ (z_q_0 M1 1) (Or.inl ⟨rfl, rfl⟩), fun z => absurd (by show (0 : Int) < 1; decide) z⟩, fun z => absurd h33 z⟩
    · obtain ⟨w1, w2, w3, -⟩ := z_W_ye hW h4
      refine z_mt hS (some (M 43 e)) ?_ ?_
      · intro Q hQ
        refine sc_96 ?_
        rw [e_20 hz.1.1.1 hT]
        exact ⟨_, rfl, fun z => absurd hE (jm_B0.1 z), fun _ => ⟨fun z => absurd z h4, fun _ => ⟨e0, e1, hQ M (z_q_rfl M)⟩⟩⟩
      · intro M1 Q S1 q1 hQ
        have h33 : M1 67 33 = 1 := by rw [q1.2 33 (by decide)]; exact w2
        obtain ⟨-, -, ⟨hX, -⟩, -⟩ := id S1
        refine sc_184 ⟨fun z => absurd (h33.symm.trans z) (by decide), fun _ => ?_⟩
        rw [r_124 hz.1.1.1 hX]
        refine ⟨_, rfl, fun z => absurd hE (jm_B0.1 z), fun _ => ⟨fun z => absurd z (by show ¬ (0 : Int) < 0; decide), fun _ => ⟨e0, e1, ?_⟩⟩⟩
        have e81 : jm_st M1 67 0 0 81 e = M 43 e := by
          show M1 81 e = M 43 e
          rw [q1.1 81 (by decide)]; exact (w3 e hE).1
        rw [e81]
        exact hQ _ _ (z_q_0 M1 0) (Or.inr ⟨rfl, rfl⟩)
  · refine z_mt hS none ?_ ?_
    · intro Q hQ
      refine sc_96 ?_
      rw [e_20 hz.1.1.1 hT]
      exact ⟨_, rfl, fun _ => hQ M (z_q_rfl M), fun z => absurd (jm_Bn.1 z) hE⟩
    · intro M1 Q S1 q1 hQ
      obtain ⟨-, -, ⟨hX, -⟩, -⟩ := id S1
      refine sc_184 ⟨fun _ => ⟨fun _ => hQ _ _ (z_q_0 M1 1) (Or.inl ⟨rfl, rfl⟩), fun z => absurd (by show (0 : Int) < 1; decide) z⟩, fun _ => ?_⟩
      rw [r_124 hz.1.1.1 hX]
      exact ⟨_, rfl, fun _ => ⟨fun _ => hQ _ _ (z_q_0 M1 1) (Or.inl ⟨rfl, rfl⟩), fun z => absurd (by show (0 : Int) < 1; decide) z⟩, fun z => absurd (jm_Bn.1 z) hE⟩
theorem z_185_n {M1 : jm_Mem} {Q : jm_Q} {e k : Int} (hQ : Q (some (jm_I 0)) (jm_st M1 67 0 1)) : jm_run 185 (15, [some (jm_R 67), some (jm_I e), some (jm_I k)], [jm_R 67], M1) Q := sg_185_15 ⟨fun _ => sg_185_43 hQ, fun z => absurd (by show (0 : Int) < 1; decide) z⟩
theorem z_left (hS : z_S w h sl fo ba su M) (e k : Int) : z_thr 97 [jm_I e, jm_I k] 185 M := by
  obtain ⟨hz, ⟨hT, c4, c5, c6⟩, -, hW, -⟩ := id hS
  have hbo := z_bo hz
  by_cases hE : g_E w h sl e
  · obtain ⟨e0, e1, -, -⟩ := g_Eb hz.1.1.1 hE
    by_cases h4 : M 42 4 = 0
    · refine z_mt hS none ?_ ?_
      · intro Q hQ
        refine sc_97 ?_
        rw [e_20 hz.1.1.1 hT]
        exact ⟨_, rfl, fun z => absurd hE (jm_B0.1 z), fun _ => ⟨fun _ => hQ M (z_q_rfl M), fun z => absurd h4 z⟩⟩
      · intro M1 Q S1 q1 hQ
        have h33 : M1 67 33 = 0 := by rw [q1.2 33 (by decide)]; exact z_W_no hW h4
        exact sc_185 ⟨fun _ => z_185_n (hQ _ _ (z_q_0 M1 1) (Or.inl ⟨rfl, rfl⟩)), fun z => absurd h33 z⟩
    · obtain ⟨w1, w2, w3, -⟩ := z_W_ye hW h4
      have cb := w3 e hE
      by_cases hk : 0 ≤ k ∧ k ≤ 1
      · refine z_mt hS (some (if k = 0 then fo e - M 43 e else ba e + M 43 e)) ?_ ?_
        · intro Q hQ
          have hQ := hQ M (z_q_rfl M)
          refine sc_97 ?_
          rw [e_20 hz.1.1.1 hT]
          refine ⟨_, rfl, fun z => absurd hE (jm_B0.1 z), fun _ => ⟨fun z => absurd z h4, fun _ => ⟨fun z => by omega, fun _ => ⟨fun z => by omega, fun _ => ⟨fun k0 => ?_, fun k0 => ?_⟩⟩⟩⟩⟩
          · rw [e_60_S e0 e1 (by rw [c4, c5]; exact hbo) cb.2]
            rw [if_neg (by decide), c4]
            rw [if_pos k0] at hQ
            exact ⟨_, rfl, hQ⟩
          · rw [e_60_S e0 e1 (by rw [c4, c5]; exact hbo) cb.2]
            rw [if_pos rfl, c5]
            rw [if_neg k0] at hQ
            exact ⟨_, rfl, hQ⟩
        · intro M1 Q S1 q1 hQ
          have h33 : M1 67 33 = 1 := by rw [q1.2 33 (by decide)]; exact w2
          obtain ⟨-, -, ⟨hX, x4, x5, -⟩, -⟩ := id S1
          have be := hbo e
          have e81 : M1 81 e = M 43 e := by
            rw [q1.1 81 (by decide)]; exact cb.1
          have s69 : jm_st M1 67 0 0 69 e = fo e := by show M1 69 e = fo e; rw [x4]
          have s70 : jm_st M1 67 0 0 70 e = ba e := by show M1 70 e = ba e; rw [x5]
          have s81 : jm_st M1 67 0 0 81 e = M 43 e := e81
          refine sc_185 ⟨fun z => absurd (h33.symm.trans z) (by decide), fun _ => ?_⟩
          rw [r_124 hz.1.1.1 hX]
          refine ⟨_, rfl, fun z => absurd hE (jm_B0.1 z), fun _ => ?_⟩
          rw [e_119]
          have hQ := hQ _ _ (z_q_0 M1 0) (Or.inr ⟨rfl, rfl⟩)
          refine ⟨_, rfl, fun z => absurd hk (jm_B0.1 z), fun _ => ⟨fun z => absurd z (by show ¬ (0 : Int) < 0; decide), fun _ => ⟨fun k0 => ⟨e0, e1, e0, e1, ?_, sg_185_43 ?_⟩, fun k0 => ⟨e0, e1, e0, e1, ?_, sg_185_43 ?_⟩⟩⟩⟩
          · rw [s69, s81]; exact ⟨by omega, by omega⟩
          · rw [s69, s81]; rw [if_pos k0] at hQ; exact hQ
          · rw [s70, s81]; exact ⟨by omega, by omega⟩
          · rw [s70, s81]; rw [if_neg k0] at hQ; exact hQ
      · refine z_mt hS none ?_ ?_
        · intro Q hQ
          refine sc_97 ?_
          rw [e_20 hz.1.1.1 hT]
          exact ⟨_, rfl, fun z => absurd hE (jm_B0.1 z), fun _ => ⟨fun z => absurd z h4, fun _ => ⟨fun _ => hQ M (z_q_rfl M), fun _ => ⟨fun _ => hQ M (z_q_rfl M), fun _ => by omega⟩⟩⟩⟩
        · intro M1 Q S1 q1 hQ
          have h33 : M1 67 33 = 1 := by rw [q1.2 33 (by decide)]; exact w2
          obtain ⟨-, -, ⟨hX, x4, x5, -⟩, -⟩ := id S1
          refine sc_185 ⟨fun z => absurd (h33.symm.trans z) (by decide), fun _ => ?_⟩
          rw [r_124 hz.1.1.1 hX]
          refine ⟨_, rfl, fun z => absurd hE (jm_B0.1 z), fun _ => ?_⟩
          rw [e_119]
          exact ⟨_, rfl, fun _ => z_185_n (hQ _ _ (z_q_0 M1 1) (Or.inl ⟨rfl, rfl⟩)), fun z => absurd (jm_Bn.1 z) hk⟩
  · refine z_mt hS none ?_ ?_
    · intro Q hQ
      refine sc_97 ?_
      rw [e_20 hz.1.1.1 hT]
      exact ⟨_, rfl, fun _ => hQ M (z_q_rfl M), fun z => absurd (jm_Bn.1 z) hE⟩
    · intro M1 Q S1 q1 hQ
      obtain ⟨-, -, ⟨hX, -⟩, -⟩ := id S1
      refine sc_185 ⟨fun _ => z_185_n (hQ _ _ (z_q_0 M1 1) (Or.inl ⟨rfl, rfl⟩)), fun _ => ?_⟩
      rw [r_124 hz.1.1.1 hX]
      exact ⟨_, rfl, fun _ => z_185_n (hQ _ _ (z_q_0 M1 1) (Or.inl ⟨rfl, rfl⟩)), fun z => absurd (jm_Bn.1 z) hE⟩
theorem z_ways (hS : z_S w h sl fo ba su M) (k : Int) : z_stp 98 [jm_I k] 186 M := by
  obtain ⟨hz, -, -, hW, -⟩ := id hS
  by_cases h4 : M 42 4 = 0
  · refine z_mk hS (-1) ?_ ?_
    · intro Q hQ
      exact sc_98 ⟨fun _ => hQ M (z_q_rfl M), fun z => absurd h4 z⟩
    · intro M1 Q S1 q1 hQ
      have h33 : jm_st M1 67 0 0 67 33 = 0 := by
        show M1 67 33 = 0
        rw [q1.1.2 33 (by decide)]; exact z_W_no hW h4
      exact sc_186 ⟨fun _ => hQ _ (z_q_0 M1 0), fun z => absurd h33 z⟩
  · obtain ⟨w1, w2, w3, ⟨v3, v4, v0, v1, v2⟩, -⟩ := z_W_ye hW h4
    refine z_mk hS (if 0 ≤ k ∧ k ≤ 4 then M 82 k else -1) ?_ ?_
    · intro Q hQ
      have hQ := hQ M (z_q_rfl M)
      refine sc_98 ⟨fun z => absurd z h4, fun _ => ⟨fun k0 => ?_, fun k0 => ⟨fun k1 => ?_, fun k1 => ⟨fun k2 => ?_, fun k2 => ⟨fun k3 => ?_, fun k3 => ⟨fun k4 => ?_, fun k4 => ?_⟩⟩⟩⟩⟩⟩
      · rw [if_pos (by omega), k0, v0] at hQ; exact hQ
      · rw [if_pos (by omega), k1, v1] at hQ; exact hQ
      · rw [if_pos (by omega), k2, v2] at hQ; exact hQ
      · rw [if_pos (by omega), k3, v3] at hQ; exact hQ
      · rw [if_pos (by omega), k4, v4] at hQ; exact hQ
      · rw [if_neg (by omega)] at hQ; exact hQ
    · intro M1 Q S1 q1 hQ
      have hQ := hQ _ (z_q_0 M1 0)
      have h33 : jm_st M1 67 0 0 67 33 = 1 := by
        show M1 67 33 = 1
        rw [q1.1.2 33 (by decide)]; exact w2
      refine sc_186 ⟨fun z => absurd (h33.symm.trans z) (by decide), fun _ => ?_⟩
      rw [e_119]
      refine ⟨_, rfl, fun z => ?_, fun z => ?_⟩
      · have z := jm_B0.1 z
        rw [if_neg z] at hQ; exact hQ
      · have z := jm_Bn.1 z
        rw [if_pos z] at hQ
        refine ⟨z.1, by omega, ?_⟩
        have e82 : jm_st M1 67 0 0 82 k = M 82 k := by
          show M1 82 k = M 82 k
          rw [q1.1.1 82 (by decide)]
        rw [e82]; exact hQ
theorem z_excess (hS : z_S w h sl fo ba su M) (n : Int) : z_thr 99 [jm_I n] 187 M := by
  obtain ⟨hz, ⟨hT, c4, c5, c6⟩, -, hW, -⟩ := id hS
  have no : ∀ (M1 : jm_Mem) (Q : jm_Q) (x : Int), Q (some (jm_I 0)) (jm_st M1 67 0 1) → jm_run 187 (16, [some (jm_R 67), some (jm_I x), some (jm_I 0), some (jm_I 0)], [], jm_st M1 67 0 1) Q := fun M1 Q x hQ => sg_187_16 ⟨fun _ => ⟨fun z => absurd z (by show ¬ (1 : Int) = 0; decide), fun _ => hQ⟩, fun z => absurd z (by decide)⟩
  by_cases hN : g_nd w h n
  · by_cases h4 : M 42 4 = 0
    · refine z_mt hS none ?_ ?_
      · intro Q hQ
        refine sc_99 ?_
        rw [e_19 hT]
        exact ⟨_, rfl, fun z => absurd hN (jm_B0.1 z), fun _ => ⟨fun _ => hQ M (z_q_rfl M), fun z => absurd h4 z⟩⟩
      · intro M1 Q S1 q1 hQ
        have h33 : M1 67 33 = 0 := by rw [q1.2 33 (by decide)]; exact z_W_no hW h4
        exact sc_187 ⟨fun _ => no M1 Q n (hQ _ _ (z_q_0 M1 1) (Or.inl ⟨rfl, rfl⟩)), fun z => absurd h33 z⟩
    · obtain ⟨w1, w2, w3, -⟩ := z_W_ye hW h4
      refine z_mt hS (some (g_sm (s_ga w sl (M 43) n) (g_el w h sl))) ?_ ?_
      · intro Q hQ
        refine sc_99 ?_
        rw [e_19 hT]
        refine ⟨_, rfl, fun z => absurd hN (jm_B0.1 z), fun _ => ⟨fun z => absurd z h4, fun _ => ?_⟩⟩
        rw [e_61 (ca := M 43) hz.1.1.1 hT (fun e _ => rfl) (fun e he => (w3 e he).2)]
        exact ⟨_, rfl, hQ M (z_q_rfl M)⟩
      · intro M1 Q S1 q1 hQ
        have h33 : M1 67 33 = 1 := by rw [q1.2 33 (by decide)]; exact w2
        obtain ⟨-, -, ⟨hX, -⟩, -⟩ := id S1
        obtain ⟨-, -, ⟨hX', -⟩, -⟩ := z_X S1 0
        refine sc_187 ⟨fun z => absurd (h33.symm.trans z) (by decide), fun _ => ?_⟩
        rw [r_122 hz.1.1.1 hX]
        refine ⟨_, rfl, fun z => absurd hN (jm_B0.1 z), fun _ => ?_⟩
        refine p_187_16 (ca := M 43) hz.1.1.1 hX' (fun e he => ?_) (fun e he => (w3 e he).2) rfl (hQ _ _ (z_q_0 M1 0) (Or.inr ⟨rfl, rfl⟩))
        show M1 81 e = M 43 e
        rw [q1.1 81 (by decide)]; exact (w3 e he).1
  · refine z_mt hS none ?_ ?_
    · intro Q hQ
      refine sc_99 ?_
      rw [e_19 hT]
      exact ⟨_, rfl, fun _ => hQ M (z_q_rfl M), fun z => absurd (jm_Bn.1 z) hN⟩
    · intro M1 Q S1 q1 hQ
      obtain ⟨-, -, ⟨hX, -⟩, -⟩ := id S1
      refine sc_187 ⟨fun _ => no M1 Q n (hQ _ _ (z_q_0 M1 1) (Or.inl ⟨rfl, rfl⟩)), fun _ => ?_⟩
      rw [r_122 hz.1.1.1 hX]
      exact ⟨_, rfl, fun _ => no M1 Q n (hQ _ _ (z_q_0 M1 1) (Or.inl ⟨rfl, rfl⟩)), fun z => absurd (jm_Bn.1 z) hN⟩
theorem z_gave (hS : z_S w h sl fo ba su M) (n : Int) : z_stp 106 [jm_I n] 204 M := by
  obtain ⟨hz, ⟨hT, c4, c5, c6⟩, -, hW, -⟩ := id hS
  have hm := g_mul hz.1.1.1
  by_cases hk : (M 42 4 = 2 ∨ M 42 4 = 3) ∧ g_nd w h n
  · obtain ⟨hk, hN⟩ := hk
    obtain ⟨w1, w2, w3, ⟨v3, -⟩, -, w6⟩ := z_W_ye hW (by omega)
    obtain ⟨u1, u2⟩ := w6 (by omega)
    refine z_mk hS (M 44 n) ?_ ?_
    · intro Q hQ
      have hQ := hQ M (z_q_rfl M)
      refine sc_106 ⟨fun k2 => ⟨fun z => absurd z (by decide), fun _ => ?_⟩, fun k2 => ⟨fun k3 => ⟨fun z => absurd z (by decide), fun _ => ?_⟩, fun k3 => by omega⟩⟩
      · rw [e_19 hT]
        exact ⟨_, rfl, fun z => absurd hN (jm_B0.1 z), fun _ => ⟨hN.1, by have := hN.2; omega, hQ⟩⟩
      · rw [e_19 hT]
        exact ⟨_, rfl, fun z => absurd hN (jm_B0.1 z), fun _ => ⟨hN.1, by have := hN.2; omega, hQ⟩⟩
    · intro M1 Q S1 q1 hQ
      have hQ := hQ _ (z_q_0 M1 0)
      obtain ⟨-, -, ⟨hX, -⟩, -⟩ := z_X S1 0
      refine sc_204 ?_
      rw [r_122 hz.1.1.1 hX]
      have h33 : jm_st M1 67 0 0 67 33 = 1 := by
        show M1 67 33 = 1
        rw [q1.1.2 33 (by decide)]; exact w2
      have h82 : jm_st M1 67 0 0 82 3 = -1 := by
        show M1 82 3 = -1
        rw [q1.1.1 82 (by decide), v3, u1]
      have h84 : jm_st M1 67 0 0 84 n = M 44 n := by
        show M1 84 n = M 44 n
        rw [q1.1.1 84 (by decide)]; exact u2 n hN
      rw [h33, h82, h84]
      exact ⟨_, rfl, fun z => absurd hN (jm_B0.1 z), fun _ => ⟨fun z => absurd z (by decide), fun _ => ⟨by omega, by omega, fun _ => ⟨hN.1, by have := hN.2; omega, hQ⟩, fun z => absurd (by decide) z⟩⟩⟩
  · refine z_mk hS (-101) ?_ ?_
    · intro Q hQ
      have hQ := hQ M (z_q_rfl M)
      refine sc_106 ⟨fun k2 => ⟨fun z => absurd z (by decide), fun _ => ?_⟩, fun k2 => ⟨fun k3 => ⟨fun z => absurd z (by decide), fun _ => ?_⟩, fun k3 => ⟨fun _ => hQ, fun z => absurd rfl z⟩⟩⟩
      · rw [e_19 hT]
        exact ⟨_, rfl, fun _ => hQ, fun z => absurd ⟨Or.inl k2, jm_Bn.1 z⟩ hk⟩
      · rw [e_19 hT]
        exact ⟨_, rfl, fun _ => hQ, fun z => absurd ⟨Or.inr k3, jm_Bn.1 z⟩ hk⟩
    · intro M1 Q S1 q1 hQ
      have hQ := hQ _ (z_q_0 M1 0)
      obtain ⟨-, -, ⟨hX, -⟩, -⟩ := z_X S1 0
      refine sc_204 ?_
      rw [r_122 hz.1.1.1 hX]
      refine ⟨_, rfl, fun _ => hQ, fun z => ⟨fun _ => hQ, fun z33 => ⟨by omega, by omega, fun z3 => ?_, fun _ => hQ⟩⟩⟩
      exfalso
      have z := jm_Bn.1 z
      have z33' : M 67 33 ≠ 0 := by
        rw [← q1.1.2 33 (by decide)]; exact z33
      have h4 : M 42 4 ≠ 0 := fun q => z33' (z_W_no hW q)
      obtain ⟨w1, w2, w3, ⟨v3, -⟩, w5, w6⟩ := z_W_ye hW h4
      have z3' : M 82 3 < 0 := by
        rw [← q1.1.1 82 (by decide)]; exact z3
      by_cases h1 : M 42 4 = 1
      · have := (w5 h1).1.1
        omega
      · exact hk ⟨by omega, z⟩
theorem z_count (hS : z_S w h sl fo ba su M) (k : Int) : z_stp 112 [jm_I k] 214 M := by
  obtain ⟨hz, ⟨hT, c4, c5, c6⟩, hR, hW, -, hTa, -⟩ := id hS
  have hbo := z_bo hz
  have hsb : ∀ v, -99 ≤ su v ∧ su v ≤ 99 := fun v => (hz.2 v).1
  refine z_mk hS (if k = 0 then w else if k = 1 then h else if k = 2 then ((g_el w h sl).length : Int) else if k = 3 then ((g_fs w h sl).length : Int) else if k = 4 then ((g_ls (fun k => 0 < sl k) 36 0).length : Int) else if k = 5 then g_sm (fun e => fo e + ba e) (g_el w h sl) else if k = 6 then (if M 42 4 = 0 then 0 else 1) else if k = 7 then M 65 1 else if k = 8 then s_al 1 su (w * h) 0 else if k = 9 then s_al (-1) su (w * h) 0 else -1) ?_ ?_
  · intro Q hQ
    have hQ := hQ M (z_q_rfl M)
    refine sc_112 ⟨fun k0 => ?_, fun k0 => ⟨fun k1 => ?_, fun k1 => ⟨fun k2 => ?_, fun k2 => ⟨fun k3 => ?_, fun k3 => ⟨fun k4 => ?_, fun k4 => ⟨fun k5 => ?_, fun k5 => ⟨fun k6 => ⟨fun k => sg_112_35 ?_, fun k => sg_112_35 ?_⟩, fun k6 => ⟨fun k7 => ?_, fun k7 => ⟨fun k8 => ?_, fun k8 => ⟨fun k9 => ?_, fun k9 => ?_⟩⟩⟩⟩⟩⟩⟩⟩⟩⟩
    · rw [if_pos k0] at hQ; rw [hT.1]; exact hQ
    · rw [if_neg k0, if_pos k1] at hQ; rw [hT.2.1]; exact hQ
    · rw [if_neg k0, if_neg k1, if_pos k2] at hQ; rw [t_ec hT]; exact hQ
    · rw [if_neg k0, if_neg k1, if_neg k2, if_pos k3] at hQ; rw [t_fc hz.1.1 hT]; exact hQ
    · rw [if_neg k0, if_neg k1, if_neg k2, if_neg k3, if_pos k4] at hQ; rw [t_sc hz.1.1 hT]; exact hQ
    · rw [if_neg k0, if_neg k1, if_neg k2, if_neg k3, if_neg k4, if_pos k5] at hQ; rw [e_29 hz.1.1.1 hT c4 c5 hbo]; exact ⟨_, rfl, hQ⟩
    · rw [if_neg k0, if_neg k1, if_neg k2, if_neg k3, if_neg k4, if_neg k5, if_pos k6, if_pos k] at hQ; exact hQ
    · rw [if_neg k0, if_neg k1, if_neg k2, if_neg k3, if_neg k4, if_neg k5, if_pos k6, if_neg k] at hQ; exact hQ
    · rw [if_neg k0, if_neg k1, if_neg k2, if_neg k3, if_neg k4, if_neg k5, if_neg k6, if_pos k7] at hQ; exact hQ
    · rw [if_neg k0, if_neg k1, if_neg k2, if_neg k3, if_neg k4, if_neg k5, if_neg k6, if_neg k7, if_pos k8] at hQ; rw [e_30 hz.1.1.1 hT c6 hsb (Or.inl rfl)]; exact ⟨_, rfl, hQ⟩
    · rw [if_neg k0, if_neg k1, if_neg k2, if_neg k3, if_neg k4, if_neg k5, if_neg k6, if_neg k7, if_neg k8, if_pos k9] at hQ; rw [e_30 hz.1.1.1 hT c6 hsb (Or.inr rfl)]; exact ⟨_, rfl, hQ⟩
    · rw [if_neg k0, if_neg k1, if_neg k2, if_neg k3, if_neg k4, if_neg k5, if_neg k6, if_neg k7, if_neg k8, if_neg k9] at hQ; exact hQ
  · intro M1 Q S1 q1 hQ
    have hQ := hQ _ (z_q_0 M1 0)
    obtain ⟨-, -, ⟨hX, x4, x5, x6⟩, -⟩ := z_X S1 0
    have h33 : jm_st M1 67 0 0 67 33 = M 67 33 := q1.1.2 33 (by decide)
    have h8 : jm_st M1 67 0 0 67 8 = M 65 1 := by
      show M1 67 8 = M 65 1
      rw [q1.1.2 8 (by decide)]; exact hTa.2.2.1
    refine sc_214 ⟨fun k0 => ?_, fun k0 => ⟨fun k1 => ?_, fun k1 => ⟨fun k2 => ?_, fun k2 => ⟨fun k3 => ?_, fun k3 => ⟨fun k4 => ?_, fun k4 => ⟨fun k5 => ?_, fun k5 => ⟨fun k6 => ⟨fun k => sg_214_29 ?_, fun k => sg_214_29 ?_⟩, fun k6 => ⟨fun k7 => ?_, fun k7 => ⟨fun k8 => ?_, fun k8 => ⟨fun k9 => ?_, fun k9 => ?_⟩⟩⟩⟩⟩⟩⟩⟩⟩⟩
    · rw [if_pos k0] at hQ; rw [hX.1]; exact hQ
    · rw [if_neg k0, if_pos k1] at hQ; rw [hX.2.1]; exact hQ
    · rw [if_neg k0, if_neg k1, if_pos k2] at hQ; rw [r_132 hz.1.1.1 hX]; exact ⟨_, rfl, hQ⟩
    · rw [if_neg k0, if_neg k1, if_neg k2, if_pos k3] at hQ; rw [r_131 hz.1.1.1 hX]; exact ⟨_, rfl, hQ⟩
    · rw [if_neg k0, if_neg k1, if_neg k2, if_neg k3, if_pos k4] at hQ; rw [r_212 hz.1.1 hX]; exact ⟨_, rfl, hQ⟩
    · rw [if_neg k0, if_neg k1, if_neg k2, if_neg k3, if_neg k4, if_pos k5] at hQ; rw [r_211 hz.1.1.1 hX x4 x5 hbo]; exact ⟨_, rfl, hQ⟩
    · rw [if_neg k0, if_neg k1, if_neg k2, if_neg k3, if_neg k4, if_neg k5, if_pos k6] at hQ
      have k' : M 67 33 = 0 := h33.symm.trans k
      have k4' : M 42 4 = 0 := Classical.byContradiction (fun q => by have := (z_W_ye hW q).2.1; omega)
      rw [if_pos k4'] at hQ; exact hQ
    · rw [if_neg k0, if_neg k1, if_neg k2, if_neg k3, if_neg k4, if_neg k5, if_pos k6] at hQ
      have k4' : ¬ M 42 4 = 0 := fun q => k (h33.trans (z_W_no hW q))
      rw [if_neg k4'] at hQ; exact hQ
    · rw [if_neg k0, if_neg k1, if_neg k2, if_neg k3, if_neg k4, if_neg k5, if_neg k6, if_pos k7] at hQ; rw [h8]; exact hQ
    · rw [if_neg k0, if_neg k1, if_neg k2, if_neg k3, if_neg k4, if_neg k5, if_neg k6, if_neg k7, if_pos k8] at hQ; rw [r_213 hz.1.1.1 hX x6 hsb (Or.inl rfl)]; exact ⟨_, rfl, hQ⟩
    · rw [if_neg k0, if_neg k1, if_neg k2, if_neg k3, if_neg k4, if_neg k5, if_neg k6, if_neg k7, if_neg k8, if_pos k9] at hQ; rw [r_213 hz.1.1.1 hX x6 hsb (Or.inr rfl)]; exact ⟨_, rfl, hQ⟩
    · rw [if_neg k0, if_neg k1, if_neg k2, if_neg k3, if_neg k4, if_neg k5, if_neg k6, if_neg k7, if_neg k8, if_neg k9] at hQ; exact hQ
end Z2
