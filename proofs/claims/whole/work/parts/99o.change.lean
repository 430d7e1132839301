/-! commands that change the grid -/
section Z8
variable {w h : Int} {sl fo ba su : Int → Int} {M : jm_Mem}
theorem e_115 {M : jm_Mem} (x : Int) (Q : jm_Q) : jm_cl 115 [jm_I x] M Q ↔ Q (some (jm_I (jm_B (2 ≤ x ∧ x ≤ 6)))) M := by
  refine jm_cl_e (fun Q hQ => sc_115 ⟨fun a => ⟨by omega, by omega, ?_⟩, fun a => ⟨fun b => ⟨by omega, by omega, ?_⟩, fun b => ⟨by omega, by omega, ?_⟩⟩⟩) Q
  · rw [show jm_B (2 ≤ x ∧ x ≤ 6) = 0 from jm_B0.2 (by omega)] at hQ; exact hQ
  · rw [show jm_B (2 ≤ x ∧ x ≤ 6) = 0 from jm_B0.2 (by omega)] at hQ; exact hQ
  · rw [show jm_B (2 ≤ x ∧ x ≤ 6) = 1 from if_pos (by omega)] at hQ; exact hQ
theorem e_116 {M : jm_Mem} (x : Int) (Q : jm_Q) : jm_cl 116 [jm_I x] M Q ↔ Q (some (jm_I (jm_B (-99 ≤ x ∧ x ≤ 99)))) M := by
  refine jm_cl_e (fun Q hQ => sc_116 ⟨fun a => ⟨by omega, by omega, ?_⟩, fun a => ⟨fun b => ⟨by omega, by omega, ?_⟩, fun b => ⟨by omega, by omega, ?_⟩⟩⟩) Q
  · rw [show jm_B (-99 ≤ x ∧ x ≤ 99) = 0 from jm_B0.2 (by omega)] at hQ; exact hQ
  · rw [show jm_B (-99 ≤ x ∧ x ≤ 99) = 0 from jm_B0.2 (by omega)] at hQ; exact hQ
  · rw [show jm_B (-99 ≤ x ∧ x ≤ 99) = 1 from if_pos (by omega)] at hQ; exact hQ
theorem z_supply (hS : z_S w h sl fo ba su M) (n a : Int) : z_stp 104 [jm_I n, jm_I a] 201 M := by
  obtain ⟨hz, ⟨hT, c4, c5, c6⟩, hR, hW, hI, hTa, hb⟩ := id hS
  have hg : g_ok w h sl := hz.1.1
  have hm := g_mul hg.1
  by_cases hN : g_nd w h n
  · have n36 : n < 36 := by have := hN.2; omega
    by_cases ha : -99 ≤ a ∧ a ≤ 99
    · refine sc_104 ?_
      rw [e_19 hT]
      refine ⟨_, rfl, fun z => absurd hN (jm_B0.1 z), fun _ => ?_⟩
      rw [e_116]
      refine ⟨_, rfl, fun z => absurd ha (jm_B0.1 z), fun _ => sc_79 ⟨hN.1, n36, hN.1, n36, ⟨_, rfl, ?_⟩⟩⟩
      rw [c6]
      have f1 : jm_fr [6] M (jm_st M 6 n a) := jm_fr_st (by decide)
      refine ⟨_, rfl, sc_201 ?_⟩
      have hR2 : z_R w h sl fo ba su (jm_st (jm_st M 6 n a) 67 0 0) := z_R_on (z_sa_tr (z_sa_fr f1 (by decide) (by decide)) (z_sa_fx (ds := []) (js := [0]) (jm_fx_sx (by decide)) (by decide) (by decide))) hR
      rw [r_122 hg.1 hR2.1]
      refine ⟨_, rfl, fun z => absurd hN (jm_B0.1 z), fun _ => ?_⟩
      rw [e_119]
      refine ⟨_, rfl, fun z => absurd ha (jm_B0.1 z), fun _ => ⟨hN.1, n36, hN.1, n36, ?_⟩⟩
      have f2 : jm_fx [71] [0] (jm_st M 6 n a) (jm_st (jm_st (jm_st M 6 n a) 67 0 0) 71 n a) := jm_fx_tr (jm_fx_sx (by decide)) (jm_fx_st (by decide) (by decide))
      have on : ∀ {cs : List Nat} {is : List Int}, (∀ c ∈ cs, c ∉ [6]) → (∀ c ∈ cs, c ∉ [71] ∧ c ≠ 67) → (∀ i ∈ is, i ∉ [(0 : Int)]) → z_sa cs is M (jm_st (jm_st (jm_st M 6 n a) 67 0 0) 71 n a) := fun a1 a2 a3 => z_sa_tr (z_sa_fr f1 a1 (by decide)) (z_sa_fx f2 a2 a3)
      refine ⟨by rw [hR2.2.2.2], ⟨w, h, sl, fo, ba, jm_up su n a, ⟨hz.1, fun v => ?_⟩, ⟨?_, ?_, ?_, ?_⟩, ⟨hR2.1, hR2.2.1, hR2.2.2.1, ?_⟩, z_W_on (on (by decide) (by decide) (by decide)) hW, z_I_on (on (by decide) (by decide) (by decide)) hI, z_T_on (on (by decide) (by decide) (by decide)) hTa, z_tb_on (on (by decide) (by decide) (by decide)) hb⟩, z_gh rfl⟩
      · by_cases q : v = n
        · rw [q, jm_up_s]
          exact ⟨ha, fun z => absurd ⟨hN.1, n36⟩ z⟩
        · rw [jm_up_o q]; exact hz.2 v
      · exact g_tb_fr (cs := [6, 67, 71]) (jm_fr_tr (jm_fr_st (by decide)) (jm_fr_tr (jm_fr_st (by decide)) (jm_fr_st (by decide)))) (by decide) hT
      · exact c4
      · exact c5
      · show jm_up (M 6) n a = _
        rw [c6]
      · show jm_up (M 71) n a = _
        rw [hR.2.2.2]
    · refine z_mk hS (-101) ?_ ?_
      · intro Q hQ
        refine sc_104 ?_
        rw [e_19 hT]
        refine ⟨_, rfl, fun z => absurd hN (jm_B0.1 z), fun _ => ?_⟩
        rw [e_116]
        exact ⟨_, rfl, fun _ => hQ M (z_q_rfl M), fun z => absurd (jm_Bn.1 z) ha⟩
      · intro M1 Q S1 _ hQ
        obtain ⟨-, -, ⟨hX, -⟩, -⟩ := z_X S1 0
        refine sc_201 ?_
        rw [r_122 hg.1 hX]
        refine ⟨_, rfl, fun z => absurd hN (jm_B0.1 z), fun _ => ?_⟩
        rw [e_119]
        exact ⟨_, rfl, fun _ => hQ _ (z_q_0 M1 0), fun z => absurd (jm_Bn.1 z) ha⟩
  · refine z_mk hS (-101) ?_ ?_
    · intro Q hQ
      refine sc_104 ?_
      rw [e_19 hT]
      exact ⟨_, rfl, fun _ => hQ M (z_q_rfl M), fun z => absurd (jm_Bn.1 z) hN⟩
    · intro M1 Q S1 _ hQ
      obtain ⟨-, -, ⟨hX, -⟩, -⟩ := z_X S1 0
      refine sc_201 ?_
      rw [r_122 hg.1 hX]
      exact ⟨_, rfl, fun _ => hQ _ (z_q_0 M1 0), fun z => absurd (jm_Bn.1 z) hN⟩
theorem z_up_gd {e a b : Int} (hz : z_g w h sl fo ba su) (e0 : 0 ≤ e) (e1 : e < 108) (ha : -99 ≤ a ∧ a ≤ 99) (hb : -99 ≤ b ∧ b ≤ 99) (hab : 0 ≤ a + b) : z_g w h sl (jm_up fo e a) (jm_up ba e b) su := by
  refine ⟨⟨hz.1.1, fun i => ?_, fun i hi => ?_⟩, hz.2⟩
  · have h1 := hz.1.2.1 i
    dsimp only at h1 ⊢
    by_cases q : i = e
    · rw [q, jm_up_s, jm_up_s]; omega
    · rw [jm_up_o q, jm_up_o q]; exact h1
  · have h1 := hz.1.2.2 i hi
    dsimp only at h1 ⊢
    have q : i ≠ e := fun q => hi (by omega)
    rw [jm_up_o q, jm_up_o q]; exact h1
theorem z_bears (hS : z_S w h sl fo ba su M) (e a b : Int) : z_stp 87 [jm_I e, jm_I a, jm_I b] 150 M := by
  obtain ⟨hz, ⟨hT, c4, c5, c6⟩, hR, hW, hI, hTa, hbt⟩ := id hS
  have hg : g_ok w h sl := hz.1.1
  by_cases hP : g_E w h sl e ∧ (-99 ≤ a ∧ a ≤ 99) ∧ (-99 ≤ b ∧ b ≤ 99) ∧ 0 ≤ a + b
  · obtain ⟨hE, ha, hb, hab⟩ := hP
    obtain ⟨e0, e1, -, -⟩ := g_Eb hg.1 hE
    refine sc_87 ?_
    rw [e_20 hg.1 hT]
    refine ⟨_, rfl, fun z => absurd hE (jm_B0.1 z), fun _ => ?_⟩
    rw [e_116]
    refine ⟨_, rfl, fun z => absurd ha (jm_B0.1 z), fun _ => ?_⟩
    rw [e_116]
    refine ⟨_, rfl, fun z => absurd hb (jm_B0.1 z), fun _ => ⟨⟨by omega, by omega⟩, fun z => by omega, fun _ => sc_77_T ⟨e0, e1, e0, e1, rfl, sc_53_S ⟨rfl, by omega, by omega, _, rfl, sc_150 ?_⟩⟩⟩⟩
    generalize hM1 : jm_st (jm_st (jm_st M 4 e a) 5 e b) 42 4 0 = M1
    have f1 : jm_fr [4, 5, 42] M M1 := by
      rw [← hM1]
      exact jm_fr_tr (jm_fr_st (by decide)) (jm_fr_tr (jm_fr_st (by decide)) (jm_fr_st (by decide)))
    have k4 : M1 4 = jm_up fo e a := by
      rw [← hM1]
      show jm_up (M 4) e a = _
      rw [c4]
    have k5 : M1 5 = jm_up ba e b := by
      rw [← hM1]
      show jm_up (M 5) e b = _
      rw [c5]
    have k42 : M1 42 4 = 0 := by rw [← hM1]; rfl
    have hR2 : z_R w h sl fo ba su (jm_st M1 67 0 0) := z_R_on (z_sa_tr (z_sa_fr f1 (by decide) (by decide)) (z_sa_fx (ds := []) (js := [0]) (jm_fx_sx (by decide)) (by decide) (by decide))) hR
    rw [r_124 hg.1 hR2.1]
    refine ⟨_, rfl, fun z => absurd hE (jm_B0.1 z), fun _ => ?_⟩
    rw [e_119]
    refine ⟨_, rfl, fun z => absurd ha (jm_B0.1 z), fun _ => ?_⟩
    rw [e_119]
    refine ⟨_, rfl, fun z => absurd hb (jm_B0.1 z), fun _ => ⟨⟨by omega, by omega⟩, fun z => by omega, fun _ => ⟨e0, e1, e0, e1, by omega, by omega, by omega, by omega, rfl, ?_, ?_⟩⟩⟩
    · have f2 : jm_fx [69, 70] [0, 33] M1 (jm_st (jm_st (jm_st (jm_st M1 67 0 0) 69 e a) 70 e b) 67 33 0) := jm_fx_tr (jm_fx_sx (by decide)) (jm_fx_tr (jm_fx_st (by decide) (by decide)) (jm_fx_tr (jm_fx_st (by decide) (by decide)) (jm_fx_sx (by decide))))
      have on : ∀ {cs : List Nat} {is : List Int}, (∀ c ∈ cs, c ∉ [4, 5, 42]) → (∀ c ∈ cs, c ∉ [69, 70] ∧ c ≠ 67) → (∀ i ∈ is, i ∉ [(0 : Int), 33]) → z_sa cs is M (jm_st (jm_st (jm_st (jm_st M1 67 0 0) 69 e a) 70 e b) 67 33 0) := fun a1 a2 a3 => z_sa_tr (z_sa_fr f1 a1 (by decide)) (z_sa_fx f2 a2 a3)
      refine ⟨w, h, sl, jm_up fo e a, jm_up ba e b, su, z_up_gd hz e0 e1 ha hb hab, ⟨?_, k4, k5, ?_⟩, ⟨hR2.1, ?_, ?_, hR2.2.2.2⟩, Or.inl ⟨k42, rfl⟩, z_I_on (on (by decide) (by decide) (by decide)) hI, z_T_on (on (by decide) (by decide) (by decide)) hTa, z_tb_on (on (by decide) (by decide) (by decide)) hbt⟩
      · have hT1 := g_tb_fr f1 (by decide) hT
        exact g_tb_fr (cs := [67, 69, 70]) (jm_fr_tr (jm_fr_st (by decide)) (jm_fr_tr (jm_fr_st (by decide)) (jm_fr_tr (jm_fr_st (by decide)) (jm_fr_st (by decide))))) (by decide) hT1
      · show M1 6 = su
        rw [f1 6 (by decide)]; exact c6
      · show jm_up (M1 69) e a = _
        rw [show M1 69 = fo from hR2.2.1]
      · show jm_up (M1 70) e b = _
        rw [show M1 70 = ba from hR2.2.2.1]
    · refine z_gh ?_
      show M1 999 = M 999
      exact f1 999 (by decide)
  · refine z_mk hS 0 ?_ ?_
    · intro Q hQ
      have hQ := hQ M (z_q_rfl M)
      refine sc_87 ?_
      rw [e_20 hg.1 hT]
      refine ⟨_, rfl, fun _ => ⟨by omega, by omega, hQ⟩, fun y1 => ?_⟩
      rw [e_116]
      refine ⟨_, rfl, fun _ => ⟨by omega, by omega, hQ⟩, fun y2 => ?_⟩
      rw [e_116]
      refine ⟨_, rfl, fun _ => ⟨by omega, by omega, hQ⟩, fun y3 => ?_⟩
      have y2 := jm_Bn.1 y2
      have y3 := jm_Bn.1 y3
      exact ⟨⟨by omega, by omega⟩, fun _ => ⟨by omega, by omega, hQ⟩, fun z => absurd ⟨jm_Bn.1 y1, y2, y3, by omega⟩ hP⟩
    · intro M1 Q S1 _ hQ
      have hQ := hQ _ (z_q_0 M1 0)
      obtain ⟨-, -, ⟨hX, -⟩, -⟩ := z_X S1 0
      refine sc_150 ?_
      rw [r_124 hg.1 hX]
      refine ⟨_, rfl, fun _ => ⟨by omega, by omega, hQ⟩, fun y1 => ?_⟩
      rw [e_119]
      refine ⟨_, rfl, fun _ => ⟨by omega, by omega, hQ⟩, fun y2 => ?_⟩
      rw [e_119]
      refine ⟨_, rfl, fun _ => ⟨by omega, by omega, hQ⟩, fun y3 => ?_⟩
      have y2 := jm_Bn.1 y2
      have y3 := jm_Bn.1 y3
      exact ⟨⟨by omega, by omega⟩, fun _ => ⟨by omega, by omega, hQ⟩, fun z => absurd ⟨jm_Bn.1 y1, y2, y3, by omega⟩ hP⟩
theorem z_slant (hS : z_S w h sl fo ba su M) (n k : Int) : z_stp 86 [jm_I n, jm_I k] 149 M := by
  obtain ⟨hz, ⟨hT, c4, c5, c6⟩, hR, hW, hI, hTa, hbt⟩ := id hS
  have hg : g_ok w h sl := hz.1.1
  have hm := g_mul hg.1
  by_cases hP : g_ce w h n ∧ 0 ≤ k ∧ k ≤ 2
  · obtain ⟨hN, k0, k2⟩ := hP
    have n0 : 0 ≤ n := hN.1
    have n36 : n < 36 := by have := hN.2.1; omega
    have hg' : g_ok w h (jm_up sl n k) := by
      refine ⟨hg.1, fun i => ?_⟩
      by_cases q : i = n
      · rw [q, jm_up_s]; exact ⟨k0, k2, fun _ => hN⟩
      · rw [jm_up_o q]; exact hg.2 i
    have hz' : z_g w h (jm_up sl n k) (jm_up fo (3 * n + 2) 0) (jm_up ba (3 * n + 2) 0) su := by
      have h1 := z_up_gd (e := 3 * n + 2) (a := 0) (b := 0) hz (by omega) (by omega) (by omega) (by omega) (by omega)
      exact ⟨⟨hg', h1.1.2.1, h1.1.2.2⟩, h1.2⟩
    refine sc_86 ?_
    rw [e_22 hg hT]
    refine ⟨_, rfl, fun z => absurd hN (jm_B0.1 z), fun _ => ⟨fun z => by omega, fun _ => ⟨fun z => by omega, fun _ => sc_78_T ⟨n0, n36, n0, n36, ⟨by omega, by omega⟩, ⟨by omega, by omega⟩, sc_77_T ⟨by omega, by omega, by omega, by omega, rfl, _, rfl, ?_⟩⟩⟩⟩⟩
    generalize hM1 : jm_st (jm_st (jm_st M 3 n k) 4 (3 * n + 2) 0) 5 (3 * n + 2) 0 = M1
    have f1 : jm_fr [3, 4, 5] M M1 := by
      rw [← hM1]
      exact jm_fr_tr (jm_fr_st (by decide)) (jm_fr_tr (jm_fr_st (by decide)) (jm_fr_st (by decide)))
    have k3 : M1 3 = jm_up sl n k := by
      rw [← hM1]
      show jm_up (M 3) n k = _
      rw [hT.2.2.1]
    have k4 : M1 4 = jm_up fo (3 * n + 2) 0 := by
      rw [← hM1]
      show jm_up (M 4) (3 * n + 2) 0 = _
      rw [c4]
    have k5 : M1 5 = jm_up ba (3 * n + 2) 0 := by
      rw [← hM1]
      show jm_up (M 5) (3 * n + 2) 0 = _
      rw [c5]
    have kw : M1 2 4 = w := by rw [f1 2 (by decide)]; exact hT.1
    have kh : M1 2 5 = h := by rw [f1 2 (by decide)]; exact hT.2.1
    refine p_11 (by rw [kw, kh, k3]; exact hg') ?_
    intro M2 T2 f2
    rw [kw, kh, k3] at T2
    refine ⟨rfl, sc_53_S ⟨rfl, _, rfl, sc_149 ?_⟩⟩
    generalize hM3 : jm_st M2 42 4 0 = M3
    have f3 : jm_fr [1, 3, 4, 5, 7, 8, 9, 10, 11, 12, 13, 14, 15, 42] M M3 := by
      rw [← hM3]
      exact jm_fr_tr (jm_fr_mo f1 (by decide)) (jm_fr_tr (jm_fr_mo f2 (by decide)) (jm_fr_st (by decide)))
    have k42 : M3 42 4 = 0 := by rw [← hM3]; rfl
    have T3 : g_tb w h (jm_up sl n k) M3 := by
      rw [← hM3]
      exact g_tb_fr (cs := [42]) (jm_fr_st (c := 42) (by decide)) (by decide) T2
    have m4 : M3 4 = jm_up fo (3 * n + 2) 0 := by
      rw [← hM3]
      show M2 4 = _
      rw [f2 4 (by decide)]; exact k4
    have m5 : M3 5 = jm_up ba (3 * n + 2) 0 := by
      rw [← hM3]
      show M2 5 = _
      rw [f2 5 (by decide)]; exact k5
    have m6 : M3 6 = su := by rw [f3 6 (by decide)]; exact c6
    have hR2 : z_R w h sl fo ba su (jm_st M3 67 0 0) := z_R_on (z_sa_tr (z_sa_fr f3 (by decide) (by decide)) (z_sa_fx (ds := []) (js := [0]) (jm_fx_sx (by decide)) (by decide) (by decide))) hR
    rw [r_123 hg.1 hR2.1]
    refine ⟨_, rfl, fun z => absurd hN (jm_B0.1 z), fun _ => ?_⟩
    rw [e_119]
    refine ⟨_, rfl, fun z => absurd ⟨k0, k2⟩ (jm_B0.1 z), fun _ => ⟨n0, n36, n0, n36, ⟨by omega, by omega⟩, ⟨by omega, by omega⟩, by omega, by omega, ⟨by omega, by omega⟩, ⟨by omega, by omega⟩, by omega, by omega, by omega, by omega, ?_, ?_, ?_⟩⟩
    · rw [hR2.1.2.2, hT.2.2.1]
    · generalize hM4 : jm_st (jm_st (jm_st (jm_st (jm_st M3 67 0 0) 68 n k) 69 (3 * n + 2) 0) 70 (3 * n + 2) 0) 67 33 0 = M4
      have f4 : jm_fx [68, 69, 70] [0, 33] M3 M4 := by
        rw [← hM4]
        exact jm_fx_tr (jm_fx_sx (by decide)) (jm_fx_tr (jm_fx_st (by decide) (by decide)) (jm_fx_tr (jm_fx_st (by decide) (by decide)) (jm_fx_tr (jm_fx_st (by decide) (by decide)) (jm_fx_sx (by decide)))))
      have on : ∀ {cs : List Nat} {is : List Int}, (∀ c ∈ cs, c ∉ [1, 3, 4, 5, 7, 8, 9, 10, 11, 12, 13, 14, 15, 42]) → (∀ c ∈ cs, c ∉ [68, 69, 70] ∧ c ≠ 67) → (∀ i ∈ is, i ∉ [(0 : Int), 33]) → z_sa cs is M M4 := fun a1 a2 a3 => z_sa_tr (z_sa_fr f3 a1 (by decide)) (z_sa_fx f4 a2 a3)
      refine ⟨w, h, jm_up sl n k, jm_up fo (3 * n + 2) 0, jm_up ba (3 * n + 2) 0, su, hz', z_C_on (z_sa_fx f4 (by decide) (by decide)) ⟨T3, m4, m5, m6⟩, ⟨⟨?_, ?_, ?_⟩, ?_, ?_, ?_⟩, Or.inl ⟨?_, ?_⟩, z_I_on (on (by decide) (by decide) (by decide)) hI, z_T_on (on (by decide) (by decide) (by decide)) hTa, z_tb_on (on (by decide) (by decide) (by decide)) hbt⟩
      · rw [f4.2 1 (by decide)]; exact hR2.1.1
      · rw [f4.2 2 (by decide)]; exact hR2.1.2.1
      · rw [← hM4]
        show jm_up (M3 68) n k = _
        rw [show M3 68 = sl from hR2.1.2.2]
      · rw [← hM4]
        show jm_up (M3 69) (3 * n + 2) 0 = _
        rw [show M3 69 = fo from hR2.2.1]
      · rw [← hM4]
        show jm_up (M3 70) (3 * n + 2) 0 = _
        rw [show M3 70 = ba from hR2.2.2.1]
      · rw [f4.1 71 (by decide) (by decide)]; exact hR2.2.2.2
      · rw [f4.1 42 (by decide) (by decide)]; exact k42
      · rw [← hM4]; rfl
    · refine z_gh ?_
      show M3 999 = M 999
      exact f3 999 (by decide)
  · refine z_mk hS (-1) ?_ ?_
    · intro Q hQ
      have hQ := hQ M (z_q_rfl M)
      refine sc_86 ?_
      rw [e_22 hg hT]
      exact ⟨_, rfl, fun _ => hQ, fun y1 => ⟨fun _ => hQ, fun y2 => ⟨fun _ => hQ, fun y3 => absurd ⟨jm_Bn.1 y1, by omega, by omega⟩ hP⟩⟩⟩
    · intro M1 Q S1 _ hQ
      have hQ := hQ _ (z_q_0 M1 0)
      obtain ⟨-, -, ⟨hX, -⟩, -⟩ := z_X S1 0
      refine sc_149 ?_
      rw [r_123 hg.1 hX]
      refine ⟨_, rfl, fun _ => hQ, fun y1 => ?_⟩
      rw [e_119]
      exact ⟨_, rfl, fun _ => hQ, fun y2 => absurd ⟨jm_Bn.1 y1, (jm_Bn.1 y2).1, (jm_Bn.1 y2).2⟩ hP⟩
theorem z_grid (hS : z_S w h sl fo ba su M) (x y : Int) : z_stp 85 [jm_I x, jm_I y] 148 M := by
  obtain ⟨hz, hC, hR, hW, hI, hTa, hbt⟩ := id hS
  by_cases hx : 2 ≤ x ∧ x ≤ 6
  · by_cases hy : 2 ≤ y ∧ y ≤ 6
    · have hsd : g_sd x y := ⟨hx.1, hx.2, hy.1, hy.2⟩
      have hz0 := z_g_0 (y_0_gd hsd)
      refine sc_85 ?_
      rw [e_115]
      refine ⟨_, rfl, fun z => absurd hx (jm_B0.1 z), fun _ => ?_⟩
      rw [e_115]
      refine ⟨_, rfl, fun z => absurd hy (jm_B0.1 z), fun _ => p_75 (fun M1 f1 d1 => ⟨rfl, p_10_Dr hz0 (z_dr_td d1) (z_o_fr f1 (by decide) (by decide) (by decide) (by decide) (z_C_o hz hC)) (fun M2 C2 f2 => ⟨rfl, sc_53_S ⟨rfl, ?_⟩⟩)⟩)⟩
      generalize hM3 : jm_st M2 42 4 0 = M3
      have f3 : jm_fr [1, 2, 3, 4, 5, 6, 7, 8, 9, 10, 11, 12, 13, 14, 15, 16, 17, 18, 19, 20, 42] M M3 := by
        rw [← hM3]
        exact jm_fr_tr (jm_fr_mo f1 (by decide)) (jm_fr_tr (jm_fr_mo f2 (by decide)) (jm_fr_st (by decide)))
      have k42 : M3 42 4 = 0 := by rw [← hM3]; rfl
      have C3 : z_C x y y_0.1 y_0.2.1 y_0.2.2 (fun _ => 0) M3 := by
        rw [← hM3]
        exact z_C_fr (cs := [42]) (jm_fr_st (c := 42) (by decide)) (by decide) C2
      have hR2 : z_R w h sl fo ba su (jm_st M3 67 0 0) := z_R_on (z_sa_tr (z_sa_fr f3 (by decide) (by decide)) (z_sa_fx (ds := []) (js := [0]) (jm_fx_sx (by decide)) (by decide) (by decide))) hR
      refine ⟨_, rfl, sc_148 ?_⟩
      rw [e_119]
      refine ⟨_, rfl, fun z => absurd hx (jm_B0.1 z), fun _ => ?_⟩
      rw [e_119]
      refine ⟨_, rfl, fun z => absurd hy (jm_B0.1 z), fun _ => p_120 (z_R_p hz hR2) (fun M4 f4 k33 R4 => ⟨rfl, ?_⟩)⟩
      rw [r_132 hsd R4.1]
      have f4' : jm_fx [68, 69, 70, 71] [0, 1, 2, 33] M3 M4 := jm_fx_tr (jm_fx_sx (by decide)) (jm_fx_mo f4 (by decide) (by decide))
      have on : ∀ {cs : List Nat} {is : List Int}, (∀ c ∈ cs, c ∉ [1, 2, 3, 4, 5, 6, 7, 8, 9, 10, 11, 12, 13, 14, 15, 16, 17, 18, 19, 20, 42]) → (∀ c ∈ cs, c ∉ [68, 69, 70, 71] ∧ c ≠ 67) → (∀ i ∈ is, i ∉ [(0 : Int), 1, 2, 33]) → z_sa cs is M M4 := fun a1 a2 a3 => z_sa_tr (z_sa_fr f3 a1 (by decide)) (z_sa_fx f4' a2 a3)
      refine ⟨_, rfl, ?_, ⟨x, y, _, _, _, _, hz0, z_C_on (z_sa_fx f4' (by decide) (by decide)) C3, R4, Or.inl ⟨?_, k33⟩, z_I_on (on (by decide) (by decide) (by decide)) hI, z_T_on (on (by decide) (by decide) (by decide)) hTa, z_tb_on (on (by decide) (by decide) (by decide)) hbt⟩, z_gh ?_⟩
      · rw [t_ec C3.1]
      · rw [f4'.1 42 (by decide) (by decide)]; exact k42
      · rw [f4'.1 999 (by decide) (by decide), f3 999 (by decide)]
    · refine z_mk hS (-1) ?_ ?_
      · intro Q hQ
        refine sc_85 ?_
        rw [e_115]
        refine ⟨_, rfl, fun z => absurd hx (jm_B0.1 z), fun _ => ?_⟩
        rw [e_115]
        exact ⟨_, rfl, fun _ => hQ M (z_q_rfl M), fun z => absurd (jm_Bn.1 z) hy⟩
      · intro M1 Q S1 _ hQ
        refine sc_148 ?_
        rw [e_119]
        refine ⟨_, rfl, fun z => absurd hx (jm_B0.1 z), fun _ => ?_⟩
        rw [e_119]
        exact ⟨_, rfl, fun _ => hQ _ (z_q_0 M1 0), fun z => absurd (jm_Bn.1 z) hy⟩
  · refine z_mk hS (-1) ?_ ?_
    · intro Q hQ
      refine sc_85 ?_
      rw [e_115]
      exact ⟨_, rfl, fun _ => hQ M (z_q_rfl M), fun z => absurd (jm_Bn.1 z) hx⟩
    · intro M1 Q S1 _ hQ
      refine sc_148 ?_
      rw [e_119]
      exact ⟨_, rfl, fun _ => hQ _ (z_q_0 M1 0), fun z => absurd (jm_Bn.1 z) hx⟩
theorem z_text (hS : z_S w h sl fo ba su M) (n : Int) : z_stp 84 [jm_I n] 147 M := by
  obtain ⟨hz, hC, hR, hW, hI, hTa, hbt⟩ := id hS
  obtain ⟨t1, t2, t3, t4, t5⟩ := id hTa
  refine p_84 (b := M 66) rfl t4 rfl t2 (z_C_o hz hC) ?_ ?_ ?_
  · intro hn
    refine ⟨_, rfl, p_147 (b := M 66) (m := M 65 1) t5 t4 t3 t2 (z_R_p hz hR) hbt ?_ (fun _ _ _ _ a b => absurd ⟨a, b⟩ hn) (fun _ _ a b => absurd ⟨a, b⟩ hn)⟩
    intro _
    exact ⟨rfl, ⟨w, h, sl, fo, ba, su, z_X hS 0⟩, z_gh rfl⟩
  · intro w' h' ls M1 n0 n1 hx f1 k1 k42 C1
    obtain ⟨g1, g2, g3⟩ := y_tx_ok n0 hx
    have gd := y_fo_gd ls y_0 (y_0_gd g1) g3
    have e67 : M1 67 = M 67 := f1 67 (by decide)
    refine ⟨_, rfl, p_147 (b := M 66) (m := M 65 1) (by rw [f1 72 (by decide)]; exact t5) t4 (by rw [e67]; exact t3) t2 ?_ ?_ (fun z => absurd ⟨n0, n1⟩ z) ?_ (fun F _ _ _ z => by rw [hx] at z; cases z)⟩
    · unfold z_p
      rw [f1 68 (by decide), f1 69 (by decide), f1 70 (by decide), f1 71 (by decide)]
      exact z_R_p hz hR
    · unfold y_tb
      rw [e67, f1 73 (by decide)]
      exact hbt
    · intro w2 h2 ls2 M2 _ _ hx2 f2 k8 k33 R2 tb2 gh2
      rw [hx] at hx2
      injection hx2 with hx2
      injection hx2 with e1 e2
      injection e2 with e2 e3
      subst e1
      subst e2
      subst e3
      refine ⟨rfl, ⟨w', h', _, _, _, _, z_g_0 gd, z_C_on (z_sa_fx f2 (by decide) (by decide)) C1, R2, Or.inl ⟨?_, k33⟩, ?_, ?_, tb2⟩, ?_⟩
      · rw [f2.1 42 (by decide) (by decide)]; exact k42
      · exact z_I_on (z_sa_tr (z_sa_fr f1 (by decide) (by decide)) (z_sa_fx f2 (by decide) (by decide))) hI
      · have e65 : M2 65 1 = 0 := by rw [f2.1 65 (by decide) (by decide)]; exact k1
        refine ⟨by omega, by omega, by rw [k8, e65], ?_, fun v v0 v1 => by omega⟩
        rw [f2.1 66 (by decide) (by decide), f1 66 (by decide)]
        exact t4
      · unfold y_gh at gh2 ⊢
        rw [f1 999 (by decide)] at gh2
        exact gh2
  · intro F M1 n0 n1 hx f1 k1
    have e67 : M1 67 = M 67 := f1 67 (by decide)
    refine ⟨_, rfl, p_147 (b := M 66) (m := M 65 1) (by rw [f1 72 (by decide)]; exact t5) t4 (by rw [e67]; exact t3) t2 ?_ ?_ (fun z => absurd ⟨n0, n1⟩ z) (fun w2 h2 ls2 _ _ _ z => by rw [hx] at z; cases z) ?_⟩
    · unfold z_p
      rw [f1 68 (by decide), f1 69 (by decide), f1 70 (by decide), f1 71 (by decide)]
      exact z_R_p hz hR
    · unfold y_tb
      rw [e67, f1 73 (by decide)]
      exact hbt
    · intro F2 M2 _ _ hx2 f2 k8 tb2 gh2
      rw [hx] at hx2
      injection hx2 with e1
      subst e1
      have on : ∀ {cs : List Nat} {is : List Int}, (∀ c ∈ cs, c ∉ [16, 17, 18, 19, 20, 65]) → (∀ c ∈ cs, c ∉ [73, 999] ∧ c ≠ 67) → (∀ i ∈ is, i ∉ [(0 : Int), 8, 9, 10, 11, 12, 13, 14, 15, 17, 18, 19, 20]) → z_sa cs is M M2 := fun a1 a2 a3 => z_sa_tr (z_sa_fr f1 a1 (by decide)) (z_sa_fx f2 a2 a3)
      refine ⟨rfl, ⟨w, h, sl, fo, ba, su, hz, z_C_on (on (by decide) (by decide) (by decide)) hC, z_R_on (on (by decide) (by decide) (by decide)) hR, z_W_on (on (by decide) (by decide) (by decide)) hW, z_I_on (on (by decide) (by decide) (by decide)) hI, ?_, tb2⟩, ?_⟩
      · have e65 : M2 65 1 = 0 := by rw [f2.1 65 (by decide) (by decide)]; exact k1
        refine ⟨by omega, by omega, by rw [k8, e65], ?_, fun v v0 v1 => by omega⟩
        rw [f2.1 66 (by decide) (by decide), f1 66 (by decide)]
        exact t4
      · unfold y_gh at gh2 ⊢
        rw [f1 999 (by decide)] at gh2
        exact gh2
end Z8
