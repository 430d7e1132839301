/-! TEXTS: the class reads a line -/
theorem p_65 {w h : Int} {G : y_G} {b : Int → Int} {n p : Int} {M : jm_Mem} {Q : jm_Q} (hg : g_ok w h G.1) (ht : y_tp b n M) (hby : l_by b) (n1 : n ≤ 600) (hp : M 65 3 = p) (p0 : 0 ≤ p) (p1 : p ≤ n) (hd : y_dr w h G M) (hok : ∀ ln q M', y_li b n w h p = .ok (ln, q) → y_fr M M' → M' 65 7 = M 65 7 → M' 65 3 = q → y_dr w h (y_ap w h ln G) M' → Q (some (jm_I 1)) M') (her : ∀ F M', y_li b n w h p = .error F → y_fr M M' → M' 65 7 = -2 - F → Q (some (jm_I 0)) M') : jm_cl 65 [jm_R 65, jm_R 16] M Q := by
  have hs : p ≤ l_st b n p ∧ l_st b n p ≤ n := l_sk_b (b := b) (P := l_w) (n := n) p p1
  have hen : l_st b n p ≤ l_en b n (l_st b n p) ∧ l_en b n (l_st b n p) ≤ n := l_en_b hs.2
  refine sc_65 (p_71 ht.1 hby ht.2 n1 hp p0 p1 ?_)
  intro M1 hf1 hx
  have f1 : jm_fe [3, 4, 5, 6, 7] M M1 := jm_fe_mo hf1 (by decide)
  have ht1 := y_tp_fe f1 (by decide) ht
  have hd1 := y_dr_fe f1 hd
  have m7 : M1 65 7 = M 65 7 := hf1.2 7 (by decide)
  have s0 : 0 ≤ l_st b n p := by omega
  have one : ∀ kd how k, y_kh kd how k → y_wk b n (l_st b n p) = k → l_kd b n (l_st b n p) = 1 → jm_cl 68 [jm_R 65, jm_R 16, jm_I kd, jm_I how] M1 (fun r M2 => ∃ r2 : Int, r = some (jm_I r2) ∧ (0 : Int) ≤ r2 ∧ r2 ≤ 1 ∧ Q (some (jm_I r2)) M2) := by
    intro kd how k hk hw h1
    unfold y_li at hok her
    rw [hw, if_neg (by omega)] at hok her
    refine p_68 hk hg ht1 hby n1 (hx.2.2.2.2.1 (by omega)) (by omega) hen.2 hd1 ?_ ?_
    · intro x y q0 f g q M2 h2 h3 fr2 k7 k3 kd2
      rw [h2] at hok
      dsimp only at hok
      rw [h3] at hok
      exact ⟨_, rfl, by omega, by omega, hok _ q M2 rfl (y_fr_tr (y_fr_fe f1) fr2) (by rw [k7, m7]) k3 kd2⟩
    · intro F M2 h2 fr2 k7
      refine ⟨_, rfl, by omega, by omega, her F M2 ?_ (y_fr_tr (y_fr_fe f1) fr2) k7⟩
      rcases h2 with h2 | ⟨x, y, q0, h2, h3⟩
      · rw [h2]
      · rw [h2]
        dsimp only
        rw [h3]
  refine ⟨rfl, ?_⟩
  rw [e_74_s1 ht1.1 n1 s0 hs.2 hx]
  refine ⟨_, rfl, fun z1 => ?_, fun z1 => ?_⟩
  · have z1 := jm_B0.1 z1
    rw [e_74_s2 ht1.1 n1 s0 hs.2 hx]
    refine ⟨_, rfl, fun z2 => ?_, fun z2 => one 0 0 0 (by omega) ?_ (jm_Bn.1 z2).1⟩
    · have z2 := jm_B0.1 z2
      rw [e_74_s3 ht1.1 n1 s0 hs.2 hx]
      refine ⟨_, rfl, fun z3 => ?_, fun z3 => one 1 0 1 (by omega) ?_ (jm_Bn.1 z3).1⟩
      · have z3 := jm_B0.1 z3
        rw [e_74_s4 ht1.1 n1 s0 hs.2 hx]
        refine ⟨_, rfl, fun z4 => ?_, fun z4 => one 2 1 2 (by omega) ?_ (jm_Bn.1 z4).1⟩
        · have z4 := jm_B0.1 z4
          rw [e_74_s5 ht1.1 n1 s0 hs.2 hx]
          refine ⟨_, rfl, fun z5 => ?_, fun z5 => one 2 2 3 (by omega) ?_ (jm_Bn.1 z5).1⟩
          · have z5 := jm_B0.1 z5
            have hw : y_wk b n (l_st b n p) = -1 := by
              unfold y_wk
              rw [if_neg z1, if_neg z2, if_neg z3, if_neg z4, if_neg z5]
            unfold y_li at her
            rw [hw, if_pos (by omega)] at her
            refine p_70 hx.2.1 s0 (by omega) (by omega) (by omega) ?_
            intro M2 f2 k7
            exact ⟨_, rfl, by omega, by omega, her _ M2 rfl (y_fr_tr (y_fr_fe f1) (y_fr_fe f2)) k7⟩
          · unfold y_wk
            rw [if_neg z1, if_neg z2, if_neg z3, if_neg z4, if_pos (jm_Bn.1 z5)]
        · unfold y_wk
          rw [if_neg z1, if_neg z2, if_neg z3, if_pos (jm_Bn.1 z4)]
      · unfold y_wk
        rw [if_neg z1, if_neg z2, if_pos (jm_Bn.1 z3)]
    · unfold y_wk
      rw [if_neg z1, if_pos (jm_Bn.1 z2)]
  · have z1 := jm_Bn.1 z1
    have hw : y_wk b n (l_st b n p) = 4 := by
      unfold y_wk
      rw [if_pos z1]
    have hk1 := z1.1
    unfold y_li y_xy at hok her
    rw [hw, if_neg (by omega), if_pos rfl] at hok her
    dsimp only at hok her
    refine p_66 (x := 0) (y := 0) hg ht1 hby n1 (hx.2.2.2.2.1 (by omega)) (by omega) hen.2 hd1 ?_ ?_
    · intro f g q M2 h3 fr2 k7 k3 kd2
      rw [h3] at hok
      exact ⟨_, rfl, by omega, by omega, hok _ q M2 rfl (y_fr_tr (y_fr_fe f1) fr2) (by rw [k7, m7]) k3 kd2⟩
    · intro F M2 h3 fr2 k7
      rw [h3] at her
      exact ⟨_, rfl, by omega, by omega, her F M2 rfl (y_fr_tr (y_fr_fe f1) fr2) k7⟩
