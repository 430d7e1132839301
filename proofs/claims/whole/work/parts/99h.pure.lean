/-! commands that change nothing -/
section Z1
variable {w h : Int} {sl fo ba su : Int → Int} {M : jm_Mem}
def z_88 (w h : Int) (sl fo ba : Int → Int) (e k : Int) : Int := if k = 0 then g_fr sl e else if k = 1 then g_to w sl e else if k = 2 then fo e else if k = 3 then ba e else if k = 4 then g_lf w h sl e else if k = 5 then g_rt w h sl e else -101
theorem z_edge (hS : z_S w h sl fo ba su M) (e k : Int) : z_stp 88 [jm_I e, jm_I k] 151 M := by
  obtain ⟨hz, ⟨hT, c4, c5, c6⟩, -⟩ := id hS
  by_cases hE : g_E w h sl e
  · obtain ⟨e0, e1, -, -⟩ := g_Eb hz.1.1.1 hE
    obtain ⟨t1, t2, t3, t4⟩ := t_E hz.1.1.1 hT hE
    refine z_mk hS (z_88 w h sl fo ba e k) ?_ ?_
    · intro Q hQ
      refine sc_88 ?_
      rw [e_20 hz.1.1.1 hT]
      have hQ := hQ M (z_q_rfl M)
      refine ⟨_, rfl, fun z => absurd hE (jm_B0.1 z), fun _ => ⟨fun k0 => ⟨e0, e1, ?_⟩, fun k0 => ⟨fun k1 => ⟨e0, e1, ?_⟩, fun k1 => ⟨fun k2 => ⟨e0, e1, ?_⟩, fun k2 => ⟨fun k3 => ⟨e0, e1, ?_⟩, fun k3 => ⟨fun k4 => ⟨e0, e1, ?_⟩, fun k4 => ⟨fun k5 => ⟨e0, e1, ?_⟩, fun k5 => ?_⟩⟩⟩⟩⟩⟩⟩
      · rw [t1]; rw [show z_88 w h sl fo ba e k = g_fr sl e from if_pos k0] at hQ; exact hQ
      · rw [t2]; unfold z_88 at hQ; rw [if_neg k0, if_pos k1] at hQ; exact hQ
      · rw [c4]; unfold z_88 at hQ; rw [if_neg k0, if_neg k1, if_pos k2] at hQ; exact hQ
      · rw [c5]; unfold z_88 at hQ; rw [if_neg k0, if_neg k1, if_neg k2, if_pos k3] at hQ; exact hQ
      · rw [t3]; unfold z_88 at hQ; rw [if_neg k0, if_neg k1, if_neg k2, if_neg k3, if_pos k4] at hQ; exact hQ
      · rw [t4]; unfold z_88 at hQ; rw [if_neg k0, if_neg k1, if_neg k2, if_neg k3, if_neg k4, if_pos k5] at hQ; exact hQ
      · unfold z_88 at hQ; rw [if_neg k0, if_neg k1, if_neg k2, if_neg k3, if_neg k4, if_neg k5] at hQ; exact hQ
    · intro M1 Q S1 _ hQ
      have hQ := hQ _ (z_q_0 M1 0)
      obtain ⟨-, -, ⟨hX, x4, x5, x6⟩, -⟩ := z_X S1 0
      refine sc_151 ?_
      rw [r_124 hz.1.1.1 hX]
      refine ⟨_, rfl, fun z => absurd hE (jm_B0.1 z), fun _ => ⟨fun k0 => ?_, fun k0 => ⟨fun k1 => ?_, fun k1 => ⟨fun k2 => ⟨e0, e1, ?_⟩, fun k2 => ⟨fun k3 => ⟨e0, e1, ?_⟩, fun k3 => ⟨fun k4 => ?_, fun k4 => ⟨fun k5 => ?_, fun k5 => ?_⟩⟩⟩⟩⟩⟩⟩
      · rw [r_125 hX e0 e1]; unfold z_88 at hQ; rw [if_pos k0] at hQ; exact ⟨_, rfl, hQ⟩
      · rw [r_126 hz.1.1.1 hX e0 e1]; unfold z_88 at hQ; rw [if_neg k0, if_pos k1] at hQ; exact ⟨_, rfl, hQ⟩
      · rw [x4]; unfold z_88 at hQ; rw [if_neg k0, if_neg k1, if_pos k2] at hQ; exact hQ
      · rw [x5]; unfold z_88 at hQ; rw [if_neg k0, if_neg k1, if_neg k2, if_pos k3] at hQ; exact hQ
      · rw [r_128 hz.1.1.1 hX hE]; unfold z_88 at hQ; rw [if_neg k0, if_neg k1, if_neg k2, if_neg k3, if_pos k4] at hQ; exact ⟨_, rfl, hQ⟩
      · rw [r_129 hz.1.1.1 hX hE]; unfold z_88 at hQ; rw [if_neg k0, if_neg k1, if_neg k2, if_neg k3, if_neg k4, if_pos k5] at hQ; exact ⟨_, rfl, hQ⟩
      · unfold z_88 at hQ; rw [if_neg k0, if_neg k1, if_neg k2, if_neg k3, if_neg k4, if_neg k5] at hQ; exact hQ
  · refine z_mk hS (-101) ?_ ?_
    · intro Q hQ
      refine sc_88 ?_
      rw [e_20 hz.1.1.1 hT]
      exact ⟨_, rfl, fun _ => hQ M (z_q_rfl M), fun z => absurd (jm_Bn.1 z) hE⟩
    · intro M1 Q S1 _ hQ
      obtain ⟨-, -, ⟨hX, x4, x5, x6⟩, -⟩ := z_X S1 0
      refine sc_151 ?_
      rw [r_124 hz.1.1.1 hX]
      exact ⟨_, rfl, fun _ => hQ _ (z_q_0 M1 0), fun z => absurd (jm_Bn.1 z) hE⟩
theorem g_F73 (hg : g_sd w h) {f : Int} (hf : g_F w h sl f) : 0 ≤ f ∧ f < 73 := by
  have hm := g_mul hg
  rcases hf with hf | ⟨f0, hc, -⟩
  · omega
  · have := hc.2.1
    omega
theorem z_around (hS : z_S w h sl fo ba su M) (f : Int) : z_thr 89 [jm_I f] 153 M := by
  obtain ⟨hz, ⟨hT, c4, c5, c6⟩, -⟩ := id hS
  by_cases hF : g_F w h sl f
  · obtain ⟨f0, f1⟩ := g_F73 hz.1.1.1 hF
    refine z_mt hS (some (s_ar w h sl f (g_el w h sl))) ?_ ?_
    · intro Q hQ
      refine sc_89 ?_
      rw [e_21 hz.1.1 hT]
      refine ⟨_, rfl, fun z => absurd hF (jm_B0.1 z), fun _ => ⟨f0, f1, ?_⟩⟩
      rw [t_ar hT f0 f1]
      exact hQ M (z_q_rfl M)
    · intro M1 Q S1 _ hQ
      obtain ⟨-, -, ⟨hX, -⟩, -⟩ := id S1
      obtain ⟨-, -, ⟨hX', -⟩, -⟩ := z_X S1 0
      refine sc_153 ?_
      rw [r_130 hz.1.1.1 hX]
      exact ⟨_, rfl, fun z => absurd hF (jm_B0.1 z), fun _ => p_153_13 hz.1.1.1 hX' rfl (hQ _ _ (z_q_0 M1 0) (Or.inr ⟨rfl, rfl⟩))⟩
  · refine z_mt hS none ?_ ?_
    · intro Q hQ
      refine sc_89 ?_
      rw [e_21 hz.1.1 hT]
      exact ⟨_, rfl, fun _ => hQ M (z_q_rfl M), fun z => absurd (jm_Bn.1 z) hF⟩
    · intro M1 Q S1 _ hQ
      obtain ⟨-, -, ⟨hX, -⟩, -⟩ := id S1
      refine sc_153 ?_
      rw [r_130 hz.1.1.1 hX]
      exact ⟨_, rfl, fun _ => sg_153_13 ⟨fun _ => ⟨fun z => absurd z (by show ¬ (1 : Int) = 0; decide), fun _ => hQ _ _ (z_q_0 M1 1) (Or.inl ⟨rfl, rfl⟩)⟩, fun z => absurd z (by decide)⟩, fun z => absurd (jm_Bn.1 z) hF⟩
theorem z_circulates (hS : z_S w h sl fo ba su M) : z_stp 92 [] 163 M := by
  obtain ⟨hz, ⟨hT, c4, c5, c6⟩, -⟩ := id hS
  have hbo := z_bo hz
  by_cases hc : g_circ w h sl fo ba
  · refine z_mk hS 1 ?_ ?_
    · intro Q hQ
      refine sc_92 (p_0c hz.1.1 hT c4 c5 hbo (fun _ M1 _ f1 => ⟨_, rfl, fun z => absurd z (by decide), fun _ => hQ M1 (z_q_fr f1 (by decide) (by decide) (by decide))⟩) (fun z => absurd hc z))
    · intro M1 Q S1 _ hQ
      obtain ⟨-, -, ⟨hX, x4, x5, x6⟩, -⟩ := z_X S1 0
      refine sc_163 (p_159 hz.1.1 hbo hX x4 x5 (fun _ M2 _ f2 _ => ⟨_, rfl, fun z => absurd z (by decide), fun _ => hQ M2 (z_q_tr (z_q_0 M1 0) (z_q_fx f2 (by decide) (by decide) (by decide)))⟩) (fun z => absurd hc z))
  · refine z_mk hS 0 ?_ ?_
    · intro Q hQ
      refine sc_92 (p_0c hz.1.1 hT c4 c5 hbo (fun z => absurd z hc) (fun _ s' g M1 _ _ f1 _ => ⟨_, rfl, fun _ => hQ M1 (z_q_fr f1 (by decide) (by decide) (by decide)), fun z => absurd rfl z⟩))
    · intro M1 Q S1 _ hQ
      obtain ⟨-, -, ⟨hX, x4, x5, x6⟩, -⟩ := z_X S1 0
      refine sc_163 (p_159 hz.1.1 hbo hX x4 x5 (fun z => absurd z hc) (fun _ M2 f2 _ => ⟨_, rfl, fun _ => hQ M2 (z_q_tr (z_q_0 M1 0) (z_q_fx f2 (by decide) (by decide) (by decide))), fun z => absurd rfl z⟩))
theorem z_potential (hS : z_S w h sl fo ba su M) (f : Int) : z_thr 93 [jm_I f] 164 M := by
  obtain ⟨hz, ⟨hT, c4, c5, c6⟩, -⟩ := id hS
  have hbo := z_bo hz
  by_cases hF : g_F w h sl f
  · obtain ⟨f0, f1⟩ := g_F73 hz.1.1.1 hF
    by_cases hc : g_circ w h sl fo ba
    · refine z_mt hS (some (g_pt w h sl fo ba f)) ?_ ?_
      · intro Q hQ
        refine sc_93 ?_
        rw [e_21 hz.1.1 hT]
        refine ⟨_, rfl, fun z => absurd hF (jm_B0.1 z), fun _ => p_0c hz.1.1 hT c4 c5 hbo (fun _ M1 h34 k1 => ⟨_, rfl, fun z => absurd z (by decide), fun _ => ⟨f0, f1, ?_⟩⟩) (fun z => absurd hc z)⟩
        rw [h34 f hF]
        exact hQ M1 (z_q_fr k1 (by decide) (by decide) (by decide))
      · intro M1 Q S1 _ hQ
        obtain ⟨-, -, ⟨hX, -⟩, -⟩ := id S1
        obtain ⟨-, -, ⟨hX', x4, x5, x6⟩, -⟩ := z_X S1 0
        refine sc_164 ?_
        rw [r_130 hz.1.1.1 hX]
        refine ⟨_, rfl, fun z => absurd hF (jm_B0.1 z), fun _ => ⟨fun z => absurd z (by show ¬ (0 : Int) < 0; decide), fun _ => p_159 hz.1.1 hbo hX' x4 x5 (fun _ M2 h74 k2 _ => ⟨_, rfl, fun z => absurd z (by decide), fun _ => ⟨f0, by omega, ?_⟩⟩) (fun z => absurd hc z)⟩⟩
        rw [h74 f hF]
        exact hQ _ M2 (z_q_tr (z_q_0 M1 0) (z_q_fx k2 (by decide) (by decide) (by decide))) (Or.inr ⟨rfl, by rw [k2.2 0 (by decide)]; rfl⟩)
    · refine z_mt hS (some (-100000)) ?_ ?_
      · intro Q hQ
        refine sc_93 ?_
        rw [e_21 hz.1.1 hT]
        exact ⟨_, rfl, fun z => absurd hF (jm_B0.1 z), fun _ => p_0c hz.1.1 hT c4 c5 hbo (fun z => absurd z hc) (fun _ s' g M1 _ _ k1 _ => ⟨_, rfl, fun _ => hQ M1 (z_q_fr k1 (by decide) (by decide) (by decide)), fun z => absurd rfl z⟩)⟩
      · intro M1 Q S1 _ hQ
        obtain ⟨-, -, ⟨hX, -⟩, -⟩ := id S1
        obtain ⟨-, -, ⟨hX', x4, x5, x6⟩, -⟩ := z_X S1 0
        refine sc_164 ?_
        rw [r_130 hz.1.1.1 hX]
        exact ⟨_, rfl, fun z => absurd hF (jm_B0.1 z), fun _ => ⟨fun z => absurd z (by show ¬ (0 : Int) < 0; decide), fun _ => p_159 hz.1.1 hbo hX' x4 x5 (fun z => absurd z hc) (fun _ M2 k2 _ => ⟨_, rfl, fun _ => hQ _ M2 (z_q_tr (z_q_0 M1 0) (z_q_fx k2 (by decide) (by decide) (by decide))) (Or.inr ⟨rfl, by rw [k2.2 0 (by decide)]; rfl⟩), fun z => absurd rfl z⟩)⟩⟩
  · refine z_mt hS none ?_ ?_
    · intro Q hQ
      refine sc_93 ?_
      rw [e_21 hz.1.1 hT]
      exact ⟨_, rfl, fun _ => hQ M (z_q_rfl M), fun z => absurd (jm_Bn.1 z) hF⟩
    · intro M1 Q S1 _ hQ
      obtain ⟨-, -, ⟨hX, -⟩, -⟩ := id S1
      refine sc_164 ?_
      rw [r_130 hz.1.1.1 hX]
      exact ⟨_, rfl, fun _ => ⟨fun _ => hQ _ _ (z_q_0 M1 1) (Or.inl ⟨rfl, rfl⟩), fun z => absurd (by show (0 : Int) < 1; decide) z⟩, fun z => absurd (jm_Bn.1 z) hF⟩
theorem z_distance (hS : z_S w h sl fo ba su M) (f g : Int) : z_thr 90 [jm_I f, jm_I g] 160 M := by
  obtain ⟨hz, ⟨hT, c4, c5, c6⟩, -⟩ := id hS
  have hbo := z_bo hz
  by_cases hF : g_F w h sl f
  · by_cases hG : g_F w h sl g
    · obtain ⟨g0, g1⟩ := g_F73 hz.1.1.1 hG
      by_cases hc : g_circ w h sl fo ba
      · refine z_mt hS (some (g_dc w h sl fo ba g f)) ?_ ?_
        · intro Q hQ
          refine sc_90 ?_
          rw [e_21 hz.1.1 hT]
          refine ⟨_, rfl, fun z => absurd hF (jm_B0.1 z), fun _ => ?_⟩
          rw [e_21 hz.1.1 hT]
          refine ⟨_, rfl, fun z => absurd hG (jm_B0.1 z), fun _ => p_0c hz.1.1 hT c4 c5 hbo (fun _ M1 h34 k1 => ⟨_, rfl, fun z => absurd z (by decide), fun _ => ?_⟩) (fun z => absurd hc z)⟩
          refine p_40 hz.1.1 hbo hc (g_tb_fr k1 (by decide) hT) (by rw [k1 4 (by decide)]; exact c4) (by rw [k1 5 (by decide)]; exact c5) hG ?_
          intro M2 hK k2
          refine ⟨rfl, ?_⟩
          rw [e_44 hz.1.1 hbo hc hG hF hK]
          exact ⟨_, rfl, hQ M2 (z_q_tr (z_q_fr k1 (by decide) (by decide) (by decide)) (z_q_fr k2 (by decide) (by decide) (by decide)))⟩
        · intro M1 Q S1 _ hQ
          obtain ⟨-, -, ⟨hX, -⟩, -⟩ := id S1
          obtain ⟨-, -, ⟨hX', x4, x5, x6⟩, -⟩ := z_X S1 0
          refine sc_160 ?_
          rw [r_130 hz.1.1.1 hX]
          refine ⟨_, rfl, fun z => absurd hF (jm_B0.1 z), fun _ => ?_⟩
          rw [r_130 hz.1.1.1 hX]
          refine ⟨_, rfl, fun z => absurd hG (jm_B0.1 z), fun _ => ⟨fun z => absurd z (by show ¬ (0 : Int) < 0; decide), fun _ => p_159 hz.1.1 hbo hX' x4 x5 (fun _ M2 h74 k2 q24 => ⟨_, rfl, fun z => absurd z (by decide), fun _ => ?_⟩) (fun z => absurd hc z)⟩⟩
          refine p_158f hz.1.1 hbo hc (r_X_fx k2 (by decide) (by decide) (by decide) hX') (by rw [k2.1 69 (by decide) (by decide)]; exact x4) (by rw [k2.1 70 (by decide) (by decide)]; exact x5) q24 hF hG ?_
          intro M3 e3 k3
          refine ⟨_, rfl, g0, by omega, ?_⟩
          rw [e3]
          exact hQ _ M3 (z_q_tr (z_q_0 M1 0) (z_q_tr (z_q_fx k2 (by decide) (by decide) (by decide)) (z_q_fr k3 (by decide) (by decide) (by decide)))) (Or.inr ⟨rfl, by rw [k3 67 (by decide), k2.2 0 (by decide)]; rfl⟩)
      · refine z_mt hS (some (-100000)) ?_ ?_
        · intro Q hQ
          refine sc_90 ?_
          rw [e_21 hz.1.1 hT]
          refine ⟨_, rfl, fun z => absurd hF (jm_B0.1 z), fun _ => ?_⟩
          rw [e_21 hz.1.1 hT]
          exact ⟨_, rfl, fun z => absurd hG (jm_B0.1 z), fun _ => p_0c hz.1.1 hT c4 c5 hbo (fun z => absurd z hc) (fun _ s' g M1 _ _ k1 _ => ⟨_, rfl, fun _ => hQ M1 (z_q_fr k1 (by decide) (by decide) (by decide)), fun z => absurd rfl z⟩)⟩
        · intro M1 Q S1 _ hQ
          obtain ⟨-, -, ⟨hX, -⟩, -⟩ := id S1
          obtain ⟨-, -, ⟨hX', x4, x5, x6⟩, -⟩ := z_X S1 0
          refine sc_160 ?_
          rw [r_130 hz.1.1.1 hX]
          refine ⟨_, rfl, fun z => absurd hF (jm_B0.1 z), fun _ => ?_⟩
          rw [r_130 hz.1.1.1 hX]
          exact ⟨_, rfl, fun z => absurd hG (jm_B0.1 z), fun _ => ⟨fun z => absurd z (by show ¬ (0 : Int) < 0; decide), fun _ => p_159 hz.1.1 hbo hX' x4 x5 (fun z => absurd z hc) (fun _ M2 k2 _ => ⟨_, rfl, fun _ => hQ _ M2 (z_q_tr (z_q_0 M1 0) (z_q_fx k2 (by decide) (by decide) (by decide))) (Or.inr ⟨rfl, by rw [k2.2 0 (by decide)]; rfl⟩), fun z => absurd rfl z⟩)⟩⟩
    · refine z_mt hS none ?_ ?_
      · intro Q hQ
        refine sc_90 ?_
        rw [e_21 hz.1.1 hT]
        refine ⟨_, rfl, fun z => absurd hF (jm_B0.1 z), fun _ => ?_⟩
        rw [e_21 hz.1.1 hT]
        exact ⟨_, rfl, fun _ => hQ M (z_q_rfl M), fun z => absurd (jm_Bn.1 z) hG⟩
      · intro M1 Q S1 _ hQ
        obtain ⟨-, -, ⟨hX, -⟩, -⟩ := id S1
        refine sc_160 ?_
        rw [r_130 hz.1.1.1 hX]
        refine ⟨_, rfl, fun z => absurd hF (jm_B0.1 z), fun _ => ?_⟩
        rw [r_130 hz.1.1.1 hX]
        exact ⟨_, rfl, fun _ => ⟨fun _ => hQ _ _ (z_q_0 M1 1) (Or.inl ⟨rfl, rfl⟩), fun z => absurd (by show (0 : Int) < 1; decide) z⟩, fun z => absurd (jm_Bn.1 z) hG⟩
  · refine z_mt hS none ?_ ?_
    · intro Q hQ
      refine sc_90 ?_
      rw [e_21 hz.1.1 hT]
      exact ⟨_, rfl, fun _ => hQ M (z_q_rfl M), fun z => absurd (jm_Bn.1 z) hF⟩
    · intro M1 Q S1 _ hQ
      obtain ⟨-, -, ⟨hX, -⟩, -⟩ := id S1
      refine sc_160 ?_
      rw [r_130 hz.1.1.1 hX]
      exact ⟨_, rfl, fun _ => ⟨fun _ => hQ _ _ (z_q_0 M1 1) (Or.inl ⟨rfl, rfl⟩), fun z => absurd (by show (0 : Int) < 1; decide) z⟩, fun z => absurd (jm_Bn.1 z) hF⟩
end Z1
