/-! commands that change nothing: ways, rings, cuts -/
section Z3
variable {w h : Int} {sl fo ba su : Int → Int} {M : jm_Mem}
theorem z_fin {rf : Nat} {as : List jm_V} {M M1 : jm_Mem} {x : Int} (hS : z_S w h sl fo ba su M) (q1 : z_q M M1) (hr : ∀ Q : jm_Q, (∀ M2, z_q M1 M2 → Q (some (jm_I x)) M2) → jm_cl rf (jm_R 67 :: as) M1 Q) : ∃ y : Int, some (jm_I x) = some (jm_I y) ∧ jm_cl rf (jm_R 67 :: as) M1 (fun r2 M2 => r2 = some (jm_I y) ∧ z_Sm M2 ∧ y_gh 760 M M2) := by
  refine ⟨x, rfl, hr _ ?_⟩
  intro M2 q2
  exact ⟨rfl, ⟨w, h, sl, fo, ba, su, z_S_eq (z_q_tr q1 q2).1 hS⟩, z_gh (z_q_tr q1 q2).2.1⟩
theorem p_162_46 {x1 x2 x4 to i A : Int} {Q : jm_Q} {M : jm_Mem} (hg : g_ok w h sl) (hbo : g_bo fo ba) (hc : g_circ w h sl fo ba) (hX : r_X w h sl M) (hfo : M 69 = fo) (hba : M 70 = ba) (hto : g_F w h sl to) (hK : ∀ v, g_F w h sl v → M 74 v = g_dc w h sl fo ba to v ∧ M 75 v = g_dh w h sl fo ba to v) (hi : i ≤ 1000) (hQ : ∀ M', jm_fx [] [25] M M' → Q (some (jm_I A)) M') : ∀ (r : Nat) (k f e' : Int) (M1 : jm_Mem), i + 1 - k = (r : Int) → 0 ≤ k → g_F w h sl f → (k ≤ i → i - k < g_dh w h sl fo ba to f ∧ A = g_ne w h sl fo ba to (g_wk w h sl fo ba to (i - k).toNat f)) → (¬ k ≤ i → A = e') → jm_fx [] [25] M M1 → jm_run 162 (46, [some (jm_R 67), some (jm_I x1), some (jm_I x2), some (jm_I i), some (jm_I x4), some (jm_I f), some (jm_I e'), some (jm_I k)], [], M1) Q
  | 0, k, f, e', M1, hr, k0, hf, ha, hb, f1 => by
    refine sg_162_46 ⟨fun _ => ?_, fun z => by omega⟩
    rw [← hb (by omega)]
    exact hQ M1 f1
  | r + 1, k, f, e', M1, hr, k0, hf, ha, hb, f1 => by
    obtain ⟨d1, d2⟩ := ha (by omega)
    have hne : f ≠ to := fun q => by
      have := (g_dh0 hg hbo hc hto hf).2 q
      omega
    obtain ⟨n1, n2, n3⟩ := g_ne_of hg hbo hc hto hf hne
    refine sg_162_46 ⟨fun z => by omega, fun _ => ?_⟩
    refine p_161 hg hbo hc (r_X_fx f1 (by decide) (by decide) (by decide) hX) (by rw [f1.1 69 (by decide) (by decide)]; exact hfo) (by rw [f1.1 70 (by decide) (by decide)]; exact hba) hto hf hne (by rw [f1.1 74 (by decide) (by decide), f1.1 75 (by decide) (by decide)]; exact hK) ?_
    refine ⟨_, rfl, ⟨by omega, by omega⟩, ?_⟩
    rw [jm_s67, if_pos rfl]
    refine p_162_46 hg hbo hc hX hfo hba hto hK hi hQ r (k + 1) _ _ _ (by omega) (by omega) n2 (fun hk => ⟨by omega, ?_⟩) (fun hk => ?_) (jm_fx_tr f1 (jm_fx_sx (by decide)))
    · rw [d2]
      obtain ⟨j, hj⟩ : ∃ j : Nat, (i - k).toNat = j + 1 := ⟨(i - k).toNat - 1, by omega⟩
      rw [show (i - (k + 1)).toNat = j by omega, hj]
      rfl
    · rw [d2, show (i - k).toNat = 0 by omega]
      rfl
theorem z_route (hS : z_S w h sl fo ba su M) (f g i : Int) : z_stp 91 [jm_I f, jm_I g, jm_I i] 162 M := by
  obtain ⟨hz, ⟨hT, c4, c5, c6⟩, -⟩ := id hS
  have hbo := z_bo hz
  have hg : g_ok w h sl := hz.1.1
  by_cases hF : g_F w h sl f
  · by_cases hG : g_F w h sl g
    · obtain ⟨f0, f1⟩ := g_F73 hz.1.1.1 hF
      by_cases hi : i < -1
      · refine z_mk hS (-1) ?_ ?_
        · intro Q hQ
          refine sc_91 ?_
          rw [e_21 hg hT]
          refine ⟨_, rfl, fun z => absurd hF (jm_B0.1 z), fun _ => ?_⟩
          rw [e_21 hg hT]
          exact ⟨_, rfl, fun z => absurd hG (jm_B0.1 z), fun _ => ⟨fun _ => hQ M (z_q_rfl M), fun z => absurd hi z⟩⟩
        · intro M1 Q S1 _ hQ
          obtain ⟨-, -, ⟨hX, x4, x5, x6⟩, -⟩ := z_X S1 0
          refine sc_162 ?_
          rw [r_130 hz.1.1.1 hX]
          refine ⟨_, rfl, fun z => absurd hF (jm_B0.1 z), fun _ => ?_⟩
          rw [r_130 hz.1.1.1 hX]
          exact ⟨_, rfl, fun z => absurd hG (jm_B0.1 z), fun _ => ⟨fun _ => hQ _ (z_q_0 M1 0), fun z => absurd hi z⟩⟩
      · by_cases hc : g_circ w h sl fo ba
        · have hb := g_d_bd hg hbo hc hG hF
          have hd : 0 ≤ g_dh w h sl fo ba g f ∧ g_dh w h sl fo ba g f ≤ 72 := by omega
          refine z_mk hS (if i = -1 then g_dh w h sl fo ba g f else if i < g_dh w h sl fo ba g f then g_ne w h sl fo ba g (g_wk w h sl fo ba g i.toNat f) else -1) ?_ ?_
          · intro Q hQ
            refine sc_91 ?_
            rw [e_21 hg hT]
            refine ⟨_, rfl, fun z => absurd hF (jm_B0.1 z), fun _ => ?_⟩
            rw [e_21 hg hT]
            refine ⟨_, rfl, fun z => absurd hG (jm_B0.1 z), fun _ => ⟨fun z => absurd z hi, fun _ => p_0c hg hT c4 c5 hbo (fun _ M1 h34 k1 => ⟨_, rfl, fun z => absurd z (by decide), fun _ => ?_⟩) (fun z => absurd hc z)⟩⟩
            have hT1 := g_tb_fr k1 (by decide) hT
            have c41 : M1 4 = fo := by rw [k1 4 (by decide)]; exact c4
            have c51 : M1 5 = ba := by rw [k1 5 (by decide)]; exact c5
            refine p_40 hg hbo hc hT1 c41 c51 hG ?_
            intro M2 hK k2
            have q2 : z_q M M2 := z_q_tr (z_q_fr k1 (by decide) (by decide) (by decide)) (z_q_fr k2 (by decide) (by decide) (by decide))
            have hQ := hQ M2 q2
            refine ⟨rfl, fun k => ?_, fun k => ?_⟩
            · rw [e_45 hg hbo hc hG hF hK]
              rw [if_pos k] at hQ
              exact ⟨_, rfl, hQ⟩
            · rw [e_46 hg hbo hc (g_tb_fr k2 (by decide) hT1) (by rw [k2 4 (by decide)]; exact c41) (by rw [k2 5 (by decide)]; exact c51) hG hF (by omega) hK]
              rw [if_neg k] at hQ
              exact ⟨_, rfl, hQ⟩
          · intro M1 Q S1 _ hQ
            obtain ⟨-, -, ⟨hX, x4, x5, x6⟩, -⟩ := z_X S1 0
            refine sc_162 ?_
            rw [r_130 hz.1.1.1 hX]
            refine ⟨_, rfl, fun z => absurd hF (jm_B0.1 z), fun _ => ?_⟩
            rw [r_130 hz.1.1.1 hX]
            refine ⟨_, rfl, fun z => absurd hG (jm_B0.1 z), fun _ => ⟨fun z => absurd z hi, fun _ => p_159 hg hbo hX x4 x5 (fun _ M2 h74 k2 q24 => ⟨_, rfl, fun z => absurd z (by decide), fun _ => ?_⟩) (fun z => absurd hc z)⟩⟩
            have hX2 := r_X_fx k2 (by decide) (by decide) (by decide) hX
            have x42 : M2 69 = fo := by rw [k2.1 69 (by decide) (by decide)]; exact x4
            have x52 : M2 70 = ba := by rw [k2.1 70 (by decide) (by decide)]; exact x5
            refine p_158b hg hbo hc hX2 x42 x52 q24 hG ?_
            intro M3 hK k3
            have q3 : z_q M1 M3 := z_q_tr (z_q_0 M1 0) (z_q_tr (z_q_fx k2 (by decide) (by decide) (by decide)) (z_q_fr k3 (by decide) (by decide) (by decide)))
            refine ⟨_, rfl, fun k => ⟨f0, by omega, ?_⟩, fun k => ⟨f0, by omega, fun lt => ?_, fun ge => ?_⟩⟩
            · rw [(hK f hF).2]
              have hQ := hQ M3 q3
              rw [if_pos k] at hQ; exact hQ
            · rw [(hK f hF).2] at lt
              refine p_162_46 (A := g_ne w h sl fo ba g (g_wk w h sl fo ba g i.toNat f)) hg hbo hc ?_ ?_ ?_ hG hK (by omega) ?_ (i + 1).toNat 0 f (-1) M3 (by omega) (by omega) hF (fun _ => ⟨by omega, by rw [Int.sub_zero]⟩) (fun z => by omega) (jm_fx_rfl _ _ _)
              · unfold r_X at hX2 ⊢
                rw [k3 67 (by decide), k3 68 (by decide)]; exact hX2
              · rw [k3 69 (by decide)]; exact x42
              · rw [k3 70 (by decide)]; exact x52
              · intro M4 f4
                have hQ := hQ M4 (z_q_tr q3 (z_q_fx f4 (by decide) (by decide) (by decide)))
                rw [if_neg k, if_pos lt] at hQ; exact hQ
            · rw [(hK f hF).2] at ge
              have hQ := hQ M3 q3
              rw [if_neg k, if_neg ge] at hQ; exact hQ
        · refine z_mk hS (-1) ?_ ?_
          · intro Q hQ
            refine sc_91 ?_
            rw [e_21 hg hT]
            refine ⟨_, rfl, fun z => absurd hF (jm_B0.1 z), fun _ => ?_⟩
            rw [e_21 hg hT]
            exact ⟨_, rfl, fun z => absurd hG (jm_B0.1 z), fun _ => ⟨fun z => absurd z hi, fun _ => p_0c hg hT c4 c5 hbo (fun z => absurd z hc) (fun _ s' g M1 _ _ k1 _ => ⟨_, rfl, fun _ => hQ M1 (z_q_fr k1 (by decide) (by decide) (by decide)), fun z => absurd rfl z⟩)⟩⟩
          · intro M1 Q S1 _ hQ
            obtain ⟨-, -, ⟨hX, x4, x5, x6⟩, -⟩ := z_X S1 0
            refine sc_162 ?_
            rw [r_130 hz.1.1.1 hX]
            refine ⟨_, rfl, fun z => absurd hF (jm_B0.1 z), fun _ => ?_⟩
            rw [r_130 hz.1.1.1 hX]
            exact ⟨_, rfl, fun z => absurd hG (jm_B0.1 z), fun _ => ⟨fun z => absurd z hi, fun _ => p_159 hg hbo hX x4 x5 (fun z => absurd z hc) (fun _ M2 k2 _ => ⟨_, rfl, fun _ => hQ M2 (z_q_tr (z_q_0 M1 0) (z_q_fx k2 (by decide) (by decide) (by decide))), fun z => absurd rfl z⟩)⟩⟩
    · refine z_mk hS (-1) ?_ ?_
      · intro Q hQ
        refine sc_91 ?_
        rw [e_21 hg hT]
        refine ⟨_, rfl, fun z => absurd hF (jm_B0.1 z), fun _ => ?_⟩
        rw [e_21 hg hT]
        exact ⟨_, rfl, fun _ => hQ M (z_q_rfl M), fun z => absurd (jm_Bn.1 z) hG⟩
      · intro M1 Q S1 _ hQ
        obtain ⟨-, -, ⟨hX, x4, x5, x6⟩, -⟩ := z_X S1 0
        refine sc_162 ?_
        rw [r_130 hz.1.1.1 hX]
        refine ⟨_, rfl, fun z => absurd hF (jm_B0.1 z), fun _ => ?_⟩
        rw [r_130 hz.1.1.1 hX]
        exact ⟨_, rfl, fun _ => hQ _ (z_q_0 M1 0), fun z => absurd (jm_Bn.1 z) hG⟩
  · refine z_mk hS (-1) ?_ ?_
    · intro Q hQ
      refine sc_91 ?_
      rw [e_21 hg hT]
      exact ⟨_, rfl, fun _ => hQ M (z_q_rfl M), fun z => absurd (jm_Bn.1 z) hF⟩
    · intro M1 Q S1 _ hQ
      obtain ⟨-, -, ⟨hX, x4, x5, x6⟩, -⟩ := z_X S1 0
      refine sc_162 ?_
      rw [r_130 hz.1.1.1 hX]
      exact ⟨_, rfl, fun _ => hQ _ (z_q_0 M1 0), fun z => absurd (jm_Bn.1 z) hF⟩
theorem e_113 {M : jm_Mem} (hT : g_tb w h sl M) (s t : Int) (Q : jm_Q) : jm_cl 113 [jm_R 0, jm_I s, jm_I t] M Q ↔ Q (some (jm_I (jm_B (g_nd w h s ∧ g_nd w h t ∧ s ≠ t)))) M := by
  refine jm_cl_e (fun Q hQ => sc_113 ?_) Q
  rw [e_19 hT]
  refine ⟨_, rfl, fun z => ⟨by omega, by omega, ?_⟩, fun z => ?_⟩
  · rw [show jm_B (g_nd w h s ∧ g_nd w h t ∧ s ≠ t) = 0 from jm_B0.2 (fun q => jm_B0.1 z q.1)] at hQ; exact hQ
  · rw [e_19 hT]
    refine ⟨_, rfl, fun y => ⟨by omega, by omega, ?_⟩, fun y => ⟨fun x => ⟨by omega, by omega, ?_⟩, fun x => ⟨by omega, by omega, ?_⟩⟩⟩
    · rw [show jm_B (g_nd w h s ∧ g_nd w h t ∧ s ≠ t) = 0 from jm_B0.2 (fun q => jm_B0.1 y q.2.1)] at hQ; exact hQ
    · rw [show jm_B (g_nd w h s ∧ g_nd w h t ∧ s ≠ t) = 0 from jm_B0.2 (fun q => q.2.2 x)] at hQ; exact hQ
    · rw [show jm_B (g_nd w h s ∧ g_nd w h t ∧ s ≠ t) = 1 from if_pos ⟨jm_Bn.1 z, jm_Bn.1 y, x⟩] at hQ; exact hQ
theorem z_ring (hS : z_S w h sl fo ba su M) (i : Int) : z_stp 94 [jm_I i] 169 M := by
  obtain ⟨hz, ⟨hT, c4, c5, c6⟩, -⟩ := id hS
  have hbo := z_bo hz
  have hg : g_ok w h sl := hz.1.1
  refine sc_94 (p_0c hg hT c4 c5 hbo (fun hc M1 _ k1 => ⟨_, rfl, fun z => absurd z (by decide), fun _ => ?_⟩) (fun hc s' g M1 hff hd k1 h5 => ⟨_, rfl, fun _ => ?_, fun z => absurd rfl z⟩))
  · have q1 : z_q M M1 := z_q_fr k1 (by decide) (by decide) (by decide)
    refine z_fin hS q1 (fun Q hQ => ?_)
    obtain ⟨-, -, ⟨hX, x4, x5, x6⟩, -⟩ := z_X (z_S_eq q1.1 hS) 0
    refine sc_169 ⟨fun _ => hQ _ (z_q_0 M1 0), fun _ => p_168 hg hbo hX x4 x5 (fun _ M2 k2 => ⟨_, rfl, fun _ => hQ M2 (z_q_tr (z_q_0 M1 0) (z_q_fx k2 (by decide) (by decide) (by decide))), fun z => absurd rfl z⟩) (fun z => absurd hc z)⟩
  · obtain ⟨r1, r2⟩ := g_ring hg hff
    refine p_3 (fm := s'.2) hg hbo (g_tb_fr k1 (by decide) hT) (by rw [k1 4 (by decide)]; exact c4) (by rw [k1 5 (by decide)]; exact c5) h5 (fun v v0 v1 => (hd v v0 v1).2) r1 r2 ?_
    intro M2 p hp p73 m3 m4 m36 k2
    have q2 : z_q M M2 := z_q_tr (z_q_fr k1 (by decide) (by decide) (by decide)) (z_q_fr k2 (by decide) (by decide) (by decide))
    have ref : ∀ x : Int, ((i < -2 → x = -101) ∧ (i = -1 → x = (p : Int)) ∧ (i = -2 → x = g_rc w h sl fo ba s'.2 (g_it (g_ah w h sl s'.2) (g_fs w h sl).length g) p) ∧ (0 ≤ i → i < (p : Int) → x = g_it (g_ah w h sl s'.2) i.toNat (g_it (g_ah w h sl s'.2) (g_fs w h sl).length g)) ∧ (0 ≤ i → ¬ i < (p : Int) → x = -101)) → ∃ y : Int, some (jm_I x) = some (jm_I y) ∧ jm_cl 169 (jm_R 67 :: [jm_I i]) M2 (fun r2 M3 => r2 = some (jm_I y) ∧ z_Sm M3 ∧ y_gh 760 M M3) := by
      intro x hx
      refine z_fin hS q2 (fun Q hQ => ?_)
      obtain ⟨-, -, ⟨hX, x4, x5, x6⟩, -⟩ := z_X (z_S_eq q2.1 hS) 0
      refine sc_169 ⟨fun z => ?_, fun z => p_168 hg hbo hX x4 x5 (fun z => absurd z hc) (fun _ s2 g2 hff2 M3 p2 hp2 _ n3 n4 n36 k3 => ⟨_, rfl, fun z => absurd z (by decide), fun _ => ?_⟩)⟩
      · rw [← hx.1 z]; exact hQ _ (z_q_0 M2 0)
      · have e2 : (s', g) = (s2, g2) := Option.some.inj (hff.symm.trans hff2)
        injection e2 with e3 e4
        subst e3
        subst e4
        have ep := g_mp_un hp hp2
        subst ep
        have hQ := hQ M3 (z_q_tr (z_q_0 M2 0) (z_q_fx k3 (by decide) (by decide) (by decide)))
        rw [n3, n4]
        refine ⟨fun k => ?_, fun k => ⟨fun k' => ?_, fun k' => ⟨fun lt => ⟨by omega, by omega, ?_⟩, fun ge => ?_⟩⟩⟩
        · rw [← hx.2.1 k]; exact hQ
        · rw [← hx.2.2.1 k']; exact hQ
        · have e36 := n36 i.toNat (by omega)
          rw [show ((i.toNat : Nat) : Int) = i by omega] at e36
          rw [e36, ← hx.2.2.2.1 (by omega) lt]; exact hQ
        · rw [← hx.2.2.2.2 (by omega) ge]; exact hQ
    refine ⟨rfl, fun k => ?_, fun k => ⟨fun k' => ?_, fun k' => ⟨fun lt => ?_, fun ge => ?_⟩⟩⟩
    · exact ref _ ⟨fun z => by omega, fun z => by omega, fun _ => m4, fun z => by omega, fun z => by omega⟩
    · exact ref _ ⟨fun z => by omega, fun _ => m3, fun z => by omega, fun z => by omega, fun z => by omega⟩
    · exact ref _ ⟨fun _ => rfl, fun z => by omega, fun z => by omega, fun z => by omega, fun z => by omega⟩
    · rw [m3]
      refine ⟨fun l => ⟨by omega, by omega, ?_⟩, fun l => ?_⟩
      · have e36 := m36 i.toNat (by omega)
        rw [show ((i.toNat : Nat) : Int) = i by omega] at e36
        exact ref _ ⟨fun z => by omega, fun z => by omega, fun z => by omega, fun _ _ => e36, fun _ z => absurd l z⟩
      · exact ref _ ⟨fun z => by omega, fun z => by omega, fun z => by omega, fun _ z => absurd z l, fun _ _ => rfl⟩
end Z3
