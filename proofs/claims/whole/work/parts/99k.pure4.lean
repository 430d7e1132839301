/-! commands that change nothing: shared, cuts -/
section Z4
variable {w h : Int} {sl fo ba su : Int → Int} {M : jm_Mem}
theorem z_shared (hS : z_S w h sl fo ba su M) (s t : Int) : z_stp 102 [jm_I s, jm_I t] 198 M := by
  obtain ⟨hz, ⟨hT, c4, c5, c6⟩, -⟩ := id hS
  have hbo := z_bo hz
  have hg : g_ok w h sl := hz.1.1
  have hsd := hz.1.1.1
  by_cases hP : g_nd w h s ∧ g_nd w h t ∧ s ≠ t
  · by_cases hs : g_os w h s
    · by_cases ht : g_os w h t
      · obtain ⟨a, a0, a1, rfl⟩ := g_rim3 hsd hP.1 hs
        obtain ⟨b, b0, b1, rfl⟩ := g_rim3 hsd hP.2.1 ht
        obtain ⟨m, m1, m2, m3, m4⟩ := g_st_to hsd a0 a1 b0 b1 (fun q => hP.2.2 (by rw [q]))
        by_cases hc : g_circ w h sl fo ba
        · refine z_mk hS (g_sv w h sl fo ba (g_mk w h m a (fun _ => 0))) ?_ ?_
          · intro Q hQ
            refine sc_102 ?_
            rw [e_113 hT]
            refine ⟨_, rfl, fun z => absurd hP (jm_B0.1 z), fun _ => p_23 hsd hT (fun k k0 k1 _ => ⟨_, rfl, fun z => by omega, fun _ => p_23 hsd hT (fun j j0 j1 _ => ⟨_, rfl, fun z => by omega, fun _ => p_0c hg hT c4 c5 hbo (fun _ M1 _ f1 => ⟨_, rfl, fun z => absurd z (by decide), fun _ => ?_⟩) (fun z => absurd hc z)⟩) (fun z => absurd rfl (z b b0 b1))⟩) (fun z => absurd rfl (z a a0 a1))⟩
            refine p_5 hg hbo hc (g_tb_fr f1 (by decide) hT) (by rw [f1 4 (by decide)]; exact c4) (by rw [f1 5 (by decide)]; exact c5) a0 a1 b0 b1 m1 m2 m3 m4 ?_
            intro M2 f2
            exact ⟨_, rfl, hQ M2 (z_q_tr (z_q_fr f1 (by decide) (by decide) (by decide)) (z_q_fr f2 (by decide) (by decide) (by decide)))⟩
          · intro M1 Q S1 _ hQ
            obtain ⟨-, -, ⟨hX, x4, x5, x6⟩, -⟩ := z_X S1 0
            refine sc_198 ?_
            rw [r_181 hsd hX]
            refine ⟨_, rfl, fun z => absurd hP (jm_B0.1 z), fun _ => ?_⟩
            rw [r_196 hsd hX hP.1]
            refine ⟨_, rfl, fun z => absurd hs (jm_B0.1 z), fun _ => ?_⟩
            rw [r_196 hsd hX hP.2.1]
            refine ⟨_, rfl, fun z => absurd ht (jm_B0.1 z), fun _ => p_159 hg hbo hX x4 x5 (fun _ M2 _ k2 _ => ⟨_, rfl, fun z => absurd z (by decide), fun _ => ?_⟩) (fun z => absurd hc z)⟩
            refine p_198_25 hg hbo hc (r_X_fx k2 (by decide) (by decide) (by decide) hX) (by rw [k2.1 69 (by decide) (by decide)]; exact x4) (by rw [k2.1 70 (by decide) (by decide)]; exact x5) a0 a1 b0 b1 m1 m2 m3 m4 ?_
            intro M3 k3
            exact hQ M3 (z_q_tr (z_q_0 M1 0) (z_q_tr (z_q_fx k2 (by decide) (by decide) (by decide)) (z_q_fx k3 (by decide) (by decide) (by decide))))
        · refine z_mk hS (-2) ?_ ?_
          · intro Q hQ
            refine sc_102 ?_
            rw [e_113 hT]
            exact ⟨_, rfl, fun z => absurd hP (jm_B0.1 z), fun _ => p_23 hsd hT (fun k k0 k1 _ => ⟨_, rfl, fun z => by omega, fun _ => p_23 hsd hT (fun j j0 j1 _ => ⟨_, rfl, fun z => by omega, fun _ => p_0c hg hT c4 c5 hbo (fun z => absurd z hc) (fun _ _ _ M1 _ _ f1 _ => ⟨_, rfl, fun _ => hQ M1 (z_q_fr f1 (by decide) (by decide) (by decide)), fun z => absurd rfl z⟩)⟩) (fun z => absurd rfl (z b b0 b1))⟩) (fun z => absurd rfl (z a a0 a1))⟩
          · intro M1 Q S1 _ hQ
            obtain ⟨-, -, ⟨hX, x4, x5, x6⟩, -⟩ := z_X S1 0
            refine sc_198 ?_
            rw [r_181 hsd hX]
            refine ⟨_, rfl, fun z => absurd hP (jm_B0.1 z), fun _ => ?_⟩
            rw [r_196 hsd hX hP.1]
            refine ⟨_, rfl, fun z => absurd hs (jm_B0.1 z), fun _ => ?_⟩
            rw [r_196 hsd hX hP.2.1]
            exact ⟨_, rfl, fun z => absurd ht (jm_B0.1 z), fun _ => p_159 hg hbo hX x4 x5 (fun z => absurd z hc) (fun _ M2 k2 _ => ⟨_, rfl, fun _ => hQ M2 (z_q_tr (z_q_0 M1 0) (z_q_fx k2 (by decide) (by decide) (by decide))), fun z => absurd rfl z⟩)⟩
      · refine z_mk hS (-1) ?_ ?_
        · intro Q hQ
          have hQ := hQ M (z_q_rfl M)
          refine sc_102 ?_
          rw [e_113 hT]
          refine ⟨_, rfl, fun z => absurd hP (jm_B0.1 z), fun _ => p_23 hsd hT (fun k k0 k1 _ => ⟨_, rfl, fun _ => hQ, fun _ => p_23 hsd hT (fun j j0 j1 e => ?_) (fun _ => ⟨_, rfl, fun _ => hQ, fun z => absurd rfl z⟩)⟩) (fun _ => ⟨_, rfl, fun _ => hQ, fun z => absurd rfl z⟩)⟩
          exact absurd (by rw [← e]; exact (g_rim1 hsd j0 j1).2.1) ht
        · intro M1 Q S1 _ hQ
          obtain ⟨-, -, ⟨hX, x4, x5, x6⟩, -⟩ := z_X S1 0
          refine sc_198 ?_
          rw [r_181 hsd hX]
          refine ⟨_, rfl, fun z => absurd hP (jm_B0.1 z), fun _ => ?_⟩
          rw [r_196 hsd hX hP.1]
          refine ⟨_, rfl, fun z => absurd hs (jm_B0.1 z), fun _ => ?_⟩
          rw [r_196 hsd hX hP.2.1]
          exact ⟨_, rfl, fun _ => hQ _ (z_q_0 M1 0), fun z => absurd (jm_Bn.1 z) ht⟩
    · refine z_mk hS (-1) ?_ ?_
      · intro Q hQ
        have hQ := hQ M (z_q_rfl M)
        refine sc_102 ?_
        rw [e_113 hT]
        refine ⟨_, rfl, fun z => absurd hP (jm_B0.1 z), fun _ => p_23 hsd hT (fun j j0 j1 e => ?_) (fun _ => ⟨_, rfl, fun _ => hQ, fun z => absurd rfl z⟩)⟩
        exact absurd (by rw [← e]; exact (g_rim1 hsd j0 j1).2.1) hs
      · intro M1 Q S1 _ hQ
        obtain ⟨-, -, ⟨hX, x4, x5, x6⟩, -⟩ := z_X S1 0
        refine sc_198 ?_
        rw [r_181 hsd hX]
        refine ⟨_, rfl, fun z => absurd hP (jm_B0.1 z), fun _ => ?_⟩
        rw [r_196 hsd hX hP.1]
        exact ⟨_, rfl, fun _ => hQ _ (z_q_0 M1 0), fun z => absurd (jm_Bn.1 z) hs⟩
  · refine z_mk hS (-1) ?_ ?_
    · intro Q hQ
      refine sc_102 ?_
      rw [e_113 hT]
      exact ⟨_, rfl, fun _ => hQ M (z_q_rfl M), fun z => absurd (jm_Bn.1 z) hP⟩
    · intro M1 Q S1 _ hQ
      obtain ⟨-, -, ⟨hX, x4, x5, x6⟩, -⟩ := z_X S1 0
      refine sc_198 ?_
      rw [r_181 hsd hX]
      exact ⟨_, rfl, fun _ => hQ _ (z_q_0 M1 0), fun z => absurd (jm_Bn.1 z) hP⟩
theorem e_114 {M : jm_Mem} (side : Int) (Q : jm_Q) : jm_cl 114 [jm_R 0, jm_I side] M Q ↔ Q (some (jm_I (jm_B (M 42 4 = 1 ∧ 0 ≤ side ∧ side ≤ 1)))) M := by
  refine jm_cl_e (fun Q hQ => sc_114 ⟨fun k => ⟨fun a => ⟨by omega, by omega, ?_⟩, fun a => ⟨fun b => ⟨by omega, by omega, ?_⟩, fun b => ⟨by omega, by omega, ?_⟩⟩⟩, fun k => ⟨by omega, by omega, ?_⟩⟩) Q
  · rw [show jm_B (M 42 4 = 1 ∧ 0 ≤ side ∧ side ≤ 1) = 0 from jm_B0.2 (by omega)] at hQ; exact hQ
  · rw [show jm_B (M 42 4 = 1 ∧ 0 ≤ side ∧ side ≤ 1) = 0 from jm_B0.2 (by omega)] at hQ; exact hQ
  · rw [show jm_B (M 42 4 = 1 ∧ 0 ≤ side ∧ side ≤ 1) = 1 from if_pos (by omega)] at hQ; exact hQ
  · rw [show jm_B (M 42 4 = 1 ∧ 0 ≤ side ∧ side ≤ 1) = 0 from jm_B0.2 (by omega)] at hQ; exact hQ
theorem r_192 {M : jm_Mem} (hW : z_W w h sl M) (side : Int) (Q : jm_Q) : jm_cl 192 [jm_R 67, jm_I side] M Q ↔ Q (some (jm_I (jm_B (M 42 4 = 1 ∧ 0 ≤ side ∧ side ≤ 1)))) M := by
  refine jm_cl_e (fun Q hQ => sc_192 ?_) Q
  by_cases h4 : M 42 4 = 0
  · rw [show jm_B (M 42 4 = 1 ∧ 0 ≤ side ∧ side ≤ 1) = 0 from jm_B0.2 (by omega)] at hQ
    exact ⟨fun _ => ⟨by omega, by omega, hQ⟩, fun z => absurd (z_W_no hW h4) z⟩
  · obtain ⟨w1, w2, w3, ⟨v3, -⟩, w5, w6⟩ := z_W_ye hW h4
    refine ⟨fun z => by omega, fun _ => ⟨by omega, by omega, fun z => ⟨by omega, by omega, ?_⟩, fun z => ?_⟩⟩
    · have h1 : M 42 4 ≠ 1 := fun q => by
        have := (w5 q).1.1
        omega
      rw [show jm_B (M 42 4 = 1 ∧ 0 ≤ side ∧ side ≤ 1) = 0 from jm_B0.2 (by omega)] at hQ; exact hQ
    · have h1 : M 42 4 = 1 := Classical.byContradiction (fun q => by
        have := (w6 q).1
        omega)
      rw [e_119]
      refine ⟨_, rfl, fun y => ⟨by omega, by omega, ?_⟩, fun y => ⟨by omega, by omega, ?_⟩⟩
      · have y := jm_B0.1 y
        rw [show jm_B (M 42 4 = 1 ∧ 0 ≤ side ∧ side ≤ 1) = 0 from jm_B0.2 (by omega)] at hQ; exact hQ
      · have y := jm_Bn.1 y
        rw [show jm_B (M 42 4 = 1 ∧ 0 ≤ side ∧ side ≤ 1) = 1 from if_pos (by omega)] at hQ; exact hQ
theorem z_cut (hS : z_S w h sl fo ba su M) (side k : Int) : z_stp 100 [jm_I side, jm_I k] 193 M := by
  obtain ⟨hz, ⟨hT, c4, c5, c6⟩, -, hW, -⟩ := id hS
  have hbo := z_bo hz
  have hg : g_ok w h sl := hz.1.1
  have hsd := hz.1.1.1
  have hm := g_mul hsd
  by_cases hC : M 42 4 = 1 ∧ 0 ≤ side ∧ side ≤ 1
  · obtain ⟨w1, w2, w3, ⟨v3, v4, -⟩, w5, w6⟩ := z_W_ye hW (by omega)
    obtain ⟨n1, n2⟩ := w5 hC.1
    have cb : c_cb w h sl (M 43) := fun e he => (w3 e he).2
    generalize hI : c_I w h sl fo ba (M 43) side (M 42 5) (M 42 6) = I
    refine z_mk hS (if k < -2 then -101 else c_cv w h sl fo ba I k) ?_ ?_
    · intro Q hQ
      refine sc_100 ?_
      rw [e_114]
      refine ⟨_, rfl, fun z => absurd hC (jm_B0.1 z), fun _ => p_31 (ca := M 43) hg hT c4 c5 hbo (fun _ _ => rfl) cb rfl rfl n1.1 (by have := n1.2; omega) n2.1 (by have := n2.2; omega) ?_⟩
      intro M1 r1 r2 f1
      have hc1 : c_T I M1 := by rw [← hI]; exact c_T_mk r1 r2
      have hT1 := g_tb_fr f1 (by decide) hT
      have q1 : z_q M M1 := z_q_fr f1 (by decide) (by decide) (by decide)
      have hQ := hQ M1 q1
      refine ⟨rfl, fun k2 => ?_, fun k2 => ⟨fun k1 => ?_, fun k1 => ?_⟩⟩
      · rw [e_36 hsd hT1 hc1 (by rw [f1 4 (by decide)]; exact c4) (by rw [f1 5 (by decide)]; exact c5) hbo]
        unfold c_cv at hQ
        rw [if_neg (by omega), if_pos k2] at hQ
        exact ⟨_, rfl, hQ⟩
      · rw [e_34 hsd hT1 hc1]
        unfold c_cv at hQ
        rw [if_neg (by omega), if_neg k2, if_pos k1] at hQ
        exact ⟨_, rfl, hQ⟩
      · rw [e_35 hsd hT1 hc1]
        unfold c_cv at hQ
        rw [if_neg k2, if_neg k1] at hQ
        refine ⟨_, rfl, fun z => ?_, fun z => ?_⟩
        · rw [if_pos z] at hQ
          by_cases y : k < -2
          · rw [if_pos y] at hQ; exact hQ
          · rw [if_neg y] at hQ; exact hQ
        · rw [if_neg z] at hQ
          by_cases y : k < -2
          · exact absurd (c_me_neg (by omega)) z
          · rw [if_neg y] at hQ; exact hQ
    · intro M1 Q S1 q1 hQ
      obtain ⟨-, -, ⟨hX, x4, x5, x6⟩, hW1, -⟩ := z_X S1 0
      refine sc_193 ?_
      rw [r_192 hW1]
      have e4 : jm_st M1 67 0 0 42 4 = M 42 4 := by
        show M1 42 4 = M 42 4
        rw [q1.1.1 42 (by decide)]
      rw [e4]
      refine ⟨_, rfl, fun z => absurd hC (jm_B0.1 z), fun _ => ⟨fun y => ?_, fun y => ?_⟩⟩
      · have hQ := hQ _ (z_q_0 M1 0)
        rw [if_pos y] at hQ; exact hQ
      · refine p_190 (ca := M 43) (s := M 42 5) (t := M 42 6) hg hX x4 x5 hbo (fun e he => ?_) cb ?_ ?_ (by omega) n1.1 (by have := n1.2; omega) n2.1 (by have := n2.2; omega) ?_
        · show M1 81 e = M 43 e
          rw [q1.1.1 81 (by decide)]; exact (w3 e he).1
        · show M1 82 3 = M 42 5
          rw [q1.1.1 82 (by decide)]; exact v3
        · show M1 82 4 = M 42 6
          rw [q1.1.1 82 (by decide)]; exact v4
        · intro M2 r2 f2
          rw [hI] at r2
          have hIb : c_b I := by rw [← hI]; exact c_I_b
          have hQ := hQ M2 (z_q_tr (z_q_0 M1 0) (z_q_fx f2 (by decide) (by decide) (by decide)))
          rw [if_neg y] at hQ
          exact ⟨rfl, p_193_21 hsd (r_X_fx f2 (by decide) (by decide) (by decide) hX) r2 hIb (by rw [f2.1 69 (by decide) (by decide)]; exact x4) (by rw [f2.1 70 (by decide) (by decide)]; exact x5) hbo (by omega) hQ⟩
  · refine z_mk hS (-101) ?_ ?_
    · intro Q hQ
      refine sc_100 ?_
      rw [e_114]
      exact ⟨_, rfl, fun _ => hQ M (z_q_rfl M), fun z => absurd (jm_Bn.1 z) hC⟩
    · intro M1 Q S1 q1 hQ
      obtain ⟨-, -, ⟨hX, x4, x5, x6⟩, hW1, -⟩ := z_X S1 0
      refine sc_193 ?_
      rw [r_192 hW1]
      have e4 : jm_st M1 67 0 0 42 4 = M 42 4 := by
        show M1 42 4 = M 42 4
        rw [q1.1.1 42 (by decide)]
      rw [e4]
      exact ⟨_, rfl, fun _ => hQ _ (z_q_0 M1 0), fun z => absurd (jm_Bn.1 z) hC⟩
theorem z_rings (hS : z_S w h sl fo ba su M) (side : Int) : z_stp 101 [jm_I side] 195 M := by
  obtain ⟨hz, ⟨hT, c4, c5, c6⟩, -, hW, -⟩ := id hS
  have hbo := z_bo hz
  have hg : g_ok w h sl := hz.1.1
  have hsd := hz.1.1.1
  have hm := g_mul hsd
  by_cases hC : M 42 4 = 1 ∧ 0 ≤ side ∧ side ≤ 1
  · obtain ⟨w1, w2, w3, ⟨v3, v4, -⟩, w5, w6⟩ := z_W_ye hW (by omega)
    obtain ⟨n1, n2⟩ := w5 hC.1
    have cb : c_cb w h sl (M 43) := fun e he => (w3 e he).2
    refine sc_101 ?_
    rw [e_114]
    refine ⟨_, rfl, fun z => absurd hC (jm_B0.1 z), fun _ => p_31 (ca := M 43) hg hT c4 c5 hbo (fun _ _ => rfl) cb rfl rfl n1.1 (by have := n1.2; omega) n2.1 (by have := n2.2; omega) ?_⟩
    intro M1 r1 r2 f1
    generalize hI : c_I w h sl fo ba (M 43) side (M 42 5) (M 42 6) = I
    have hc1 : c_T I M1 := by rw [← hI]; exact c_T_mk r1 r2
    have hT1 := g_tb_fr f1 (by decide) hT
    refine ⟨rfl, p_37 hg hT1 hc1 ?_⟩
    intro M2 R hR f2
    have q2 : z_q M M2 := z_q_tr (z_q_fr f1 (by decide) (by decide) (by decide)) (z_q_fr f2 (by decide) (by decide) (by decide))
    refine ⟨_, rfl, z_fin hS q2 (fun Q hQ => ?_)⟩
    obtain ⟨-, -, ⟨hX, x4, x5, x6⟩, hW1, -⟩ := z_X (z_S_eq q2.1 hS) 0
    refine sc_195 ?_
    rw [r_192 hW1]
    have e4 : jm_st M2 67 0 0 42 4 = M 42 4 := by
      show M2 42 4 = M 42 4
      rw [q2.1.1 42 (by decide)]
    rw [e4]
    refine ⟨_, rfl, fun z => absurd hC (jm_B0.1 z), fun _ => ?_⟩
    refine p_190 (ca := M 43) (s := M 42 5) (t := M 42 6) hg hX x4 x5 hbo (fun e he => ?_) cb ?_ ?_ (by omega) n1.1 (by have := n1.2; omega) n2.1 (by have := n2.2; omega) ?_
    · show M2 81 e = M 43 e
      rw [q2.1.1 81 (by decide)]; exact (w3 e he).1
    · show M2 82 3 = M 42 5
      rw [q2.1.1 82 (by decide)]; exact v3
    · show M2 82 4 = M 42 6
      rw [q2.1.1 82 (by decide)]; exact v4
    · intro M3 r3 f3
      rw [hI] at r3
      refine ⟨rfl, p_195_16 hg (r_X_fx f3 (by decide) (by decide) (by decide) hX) r3 ?_⟩
      intro M4 P hP f4
      rw [← c_same hR hP (fun e he => by have := g_Eb hsd he.1; omega)]
      exact hQ M4 (z_q_tr (z_q_0 M2 0) (z_q_tr (z_q_fx f3 (by decide) (by decide) (by decide)) (z_q_fx f4 (by decide) (by decide) (by decide))))
  · refine z_mk hS (-1) ?_ ?_
    · intro Q hQ
      refine sc_101 ?_
      rw [e_114]
      exact ⟨_, rfl, fun _ => hQ M (z_q_rfl M), fun z => absurd (jm_Bn.1 z) hC⟩
    · intro M1 Q S1 q1 hQ
      obtain ⟨-, -, ⟨hX, x4, x5, x6⟩, hW1, -⟩ := z_X S1 0
      refine sc_195 ?_
      rw [r_192 hW1]
      have e4 : jm_st M1 67 0 0 42 4 = M 42 4 := by
        show M1 42 4 = M 42 4
        rw [q1.1.1 42 (by decide)]
      rw [e4]
      exact ⟨_, rfl, fun _ => hQ _ (z_q_0 M1 0), fun z => absurd (jm_Bn.1 z) hC⟩
end Z4
