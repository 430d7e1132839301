/-! TEXTS: the class's reading -/
theorem y_fr_rfl (M : jm_Mem) : y_fr M M := ⟨fun _ _ _ _ _ _ _ => rfl, rfl, rfl⟩
theorem p_63_e {n L i : Int} {M : jm_Mem} {Q : jm_Q} (h1 : M 65 7 < 0 → Q (some (jm_I (M 65 7))) M) (h2 : ¬ M 65 7 < 0 → Q (some (jm_I L)) M) : jm_run 63 (20, [some (jm_R 65), some (jm_I n), some (jm_R 16), some (jm_I L), some (jm_I 0), some (jm_I i)], [], M) Q :=
  sg_63_20 ⟨fun _ => ⟨fun _ => ⟨h1, h2⟩, fun y => absurd rfl y⟩, fun _ => ⟨h1, h2⟩⟩
theorem p_63_20 {w h : Int} {b : Int → Int} {n : Int} {Q : jm_Q} (hby : l_by b) (n1 : n ≤ 600) : ∀ (k : Nat) (p L i : Int) (G : y_G) (M : jm_Mem), n - p < (k : Int) → 0 ≤ p → p ≤ n → 0 ≤ i → i ≤ p → 0 ≤ L → L ≤ p → y_gd w h G → y_tp b n M → M 65 3 = p → M 65 7 = 0 → y_dr w h G M → (∀ ls M', y_ls b n w h k p = .ok ls → y_fr M M' → y_dr w h (y_fo w h G ls) M' → Q (some (jm_I (L + (ls.length : Int)))) M') → (∀ F M', y_ls b n w h k p = .error F → y_fr M M' → Q (some (jm_I (-2 - F))) M') → jm_run 63 (20, [some (jm_R 65), some (jm_I n), some (jm_R 16), some (jm_I L), some (jm_I 1), some (jm_I i)], [], M) Q
  | 0, p, L, i, G, M, hk, p0, p1, _, _, _, _, _, _, _, _, _, _, _ => by omega
  | k + 1, p, L, i, G, M, hk, p0, p1, i0, i1, L0, L1, hG, ht, hp, h7, hd, hok, her => by
    have hs := l_st_b (b := b) p1
    have hen := l_en_b (b := b) hs.2
    unfold y_ls at hok her
    refine sg_63_20 ⟨fun lt => ⟨fun y => absurd y (by decide), fun _ => p_71 ht.1 hby ht.2 n1 hp p0 p1 ?_⟩, fun ge => ⟨fun y => by omega, fun _ => ?_⟩⟩
    · intro M1 hf1 hx
      have f1 : jm_fe [3, 4, 5, 6, 7] M M1 := jm_fe_mo hf1 (by decide)
      have ht1 := y_tp_fe f1 (by decide) ht
      have hd1 := y_dr_fe f1 hd
      have m7 : M1 65 7 = 0 := by rw [hf1.2 7 (by decide)]; exact h7
      refine ⟨rfl, fun c3 => ⟨⟨by omega, by omega⟩, ?_⟩, fun c3 => ⟨fun c0 => ⟨⟨by omega, by omega⟩, ?_⟩, fun c0 => ?_⟩⟩
      · rw [hx.1] at c3
        have e3 := l_en_3 c3
        rw [if_pos c3] at hok her
        refine p_65 hG.1 ht1 hby n1 (hx.2.2.2.2.1 (by omega)) (by omega) hen.2 hd1 ?_ ?_
        · intro ln q M2 h2 fr2 k7 k3 kd2
          have h3 := y_li_ok hen.2 h2
          rw [h2] at hok her
          dsimp only at hok her
          refine ⟨_, rfl, ⟨by omega, by omega⟩, p_63_20 hby n1 k q (L + 1) (i + 1) (y_ap w h ln G) M2 (by omega) (by omega) h3.2.1 (by omega) (by omega) (by omega) (by omega) (y_ln_gd hG h3.2.2) (y_tp_fr fr2 ht1) k3 (by omega) kd2 ?_ ?_⟩
          · intro ls M3 h4 fr3 d3
            rw [h4] at hok
            have := hok (ln :: ls) M3 rfl (y_fr_tr (y_fr_fe f1) (y_fr_tr fr2 fr3)) d3
            rw [List.length_cons] at this
            have e : L + 1 + (ls.length : Int) = L + ((ls.length + 1 : Nat) : Int) := by omega
            rw [e]
            exact this
          · intro F M3 h4 fr3
            rw [h4] at her
            exact her F M3 rfl (y_fr_tr (y_fr_fe f1) (y_fr_tr fr2 fr3))
        · intro F M2 h2 fr2 k7
          have hF := y_li_er (by omega) hen.2 h2
          rw [h2] at her
          refine ⟨_, rfl, ⟨by omega, by omega⟩, p_63_e (fun _ => ?_) (fun z => by omega)⟩
          rw [k7]
          exact her F M2 rfl (y_fr_tr (y_fr_fe f1) fr2)
      · rw [hx.1] at c0
        rw [if_neg (by omega), if_pos c0] at hok
        refine p_63_e (fun z => by omega) (fun _ => ?_)
        have := hok [] M1 rfl (y_fr_fe f1) hd1
        rw [List.length_nil] at this
        have e : L = L + ((0 : Nat) : Int) := by omega
        rw [e]
        exact this
      · rw [hx.1] at c0 c3
        rw [if_neg c3, if_neg c0] at her
        refine p_70 hx.2.1 (by omega) (by omega) (by omega) (by omega) ?_
        intro M2 f2 k7
        refine ⟨_, rfl, fun _ => ⟨⟨by omega, by omega⟩, p_63_e (fun _ => ?_) (fun z => by omega)⟩, fun z => absurd rfl z⟩
        rw [k7]
        exact her _ M2 rfl (y_fr_tr (y_fr_fe f1) (y_fr_fe f2))
    · have e : p = n := by omega
      have e0 : l_st b n p = n := by rw [e]; exact l_sk_z (by omega)
      have kd0 : l_kd b n (l_st b n p) = 0 := (l_kd_0 (by omega)).1
      rw [if_neg (by omega), if_pos kd0] at hok
      have := hok [] M rfl (y_fr_rfl M) hd
      rw [List.length_nil] at this
      have e : L = L + ((0 : Nat) : Int) := by omega
      rw [e]
      exact this
theorem p_75 {M : jm_Mem} {w h : Int} {Q : jm_Q} (hQ : ∀ M', jm_fr [16, 17, 18, 19, 20] M M' → y_dr w h y_0 M' → Q none M') : jm_cl 75 [jm_R 16, jm_I w, jm_I h] M Q := by
  refine sc_75 ?_
  refine jm_fill (n := 36) (l := []) rfl rfl (by decide) ⟨rfl, ?_⟩
  refine jm_fill (n := 108) (l := []) rfl rfl (by decide) ⟨rfl, ?_⟩
  refine jm_fill (n := 108) (l := []) rfl rfl (by decide) ⟨rfl, ?_⟩
  refine jm_fill (n := 36) (l := []) rfl rfl (by decide) ⟨rfl, ?_⟩
  refine hQ _ ?_ ?_
  · refine jm_fr_tr (jm_fr_st (by decide)) (jm_fr_tr (jm_fr_st (by decide)) (jm_fr_tr (jm_fr_sr (by decide)) (jm_fr_tr (jm_fr_sr (by decide)) (jm_fr_tr (jm_fr_sr (by decide)) (jm_fr_sr (by decide))))))
  · exact ⟨rfl, rfl, fun v v0 v1 => if_pos ⟨v0, v1⟩, fun e e0 e1 => ⟨if_pos ⟨e0, e1⟩, if_pos ⟨e0, e1⟩⟩, fun v v0 v1 => if_pos ⟨v0, v1⟩⟩
theorem p_64 {b : Int → Int} {n : Int} {M : jm_Mem} {Q : jm_Q} (ht : y_tp b n M) (hby : l_by b) (n0 : 0 ≤ n) (n1 : n ≤ 600) (hp : M 65 3 = 0) (hok : ∀ w h q M', y_hd b n = .ok (w, h, q) → y_fr M M' → M' 65 7 = M 65 7 → M' 65 3 = q → y_dr w h y_0 M' → Q (some (jm_I 1)) M') (her : ∀ F M', y_hd b n = .error F → y_fr M M' → M' 65 7 = -2 - F → Q (some (jm_I 0)) M') : jm_cl 64 [jm_R 65, jm_R 16] M Q := by
  have hs := l_st_b (b := b) n0
  have hen := l_en_b (b := b) hs.2
  refine sc_64 (p_71 ht.1 hby ht.2 n1 hp (by omega) n0 ?_)
  intro M1 hf1 hx
  have f1 : jm_fe [3, 4, 5, 6, 7] M M1 := jm_fe_mo hf1 (by decide)
  have ht1 := y_tp_fe f1 (by decide) ht
  have m7 : M1 65 7 = M 65 7 := hf1.2 7 (by decide)
  refine ⟨rfl, ?_⟩
  rw [e_74_s0 ht1.1 n1 (by omega) hs.2 hx]
  unfold y_hd at hok her
  refine ⟨_, rfl, fun z1 => ?_, fun z1 => ?_⟩
  · have z1 := jm_B0.1 z1
    rw [if_neg z1] at her
    refine p_70 hx.2.1 (by omega) (by omega) (by omega) (by omega) ?_
    intro M2 f2 k7
    exact ⟨_, rfl, by omega, by omega, her _ M2 rfl (y_fr_tr (y_fr_fe f1) (y_fr_fe f2)) k7⟩
  · have z1 := jm_Bn.1 z1
    rw [if_pos z1] at hok her
    refine p_69 ht1 hby n1 (hx.2.2.2.2.1 (by have := z1.1; omega)) (by omega) hen.2 ?_ ?_
    · intro w q M2 h2 f2 k7 k3 k6
      obtain ⟨b1, b2, b3, b4⟩ := y_wh_ok hen.2 h2
      rw [h2] at hok her
      dsimp only at hok her
      have ht2 := y_tp_fe f2 (by decide) ht1
      refine ⟨_, rfl, fun z => absurd z (by decide), fun _ => p_69 ht2 hby n1 k3 (by omega) b4 ?_ ?_⟩
      · intro h q1 M3 h3 f3 j7 j3 j6
        rw [h3] at hok
        dsimp only at hok
        refine ⟨_, rfl, fun z => absurd z (by decide), fun _ => ?_⟩
        rw [k6, j6]
        refine p_75 ?_
        intro M4 f4 d4
        have e65 : M4 65 = M3 65 := f4 65 (by decide)
        refine ⟨rfl, by omega, by omega, hok w h q1 M4 rfl (y_fr_tr (y_fr_fe f1) (y_fr_tr (y_fr_fe f2) (y_fr_tr (y_fr_fe f3) (y_fr_fr f4 (by decide))))) (by rw [e65, j7, k7, m7]) (by rw [e65, j3]) d4⟩
      · intro F M3 h3 f3 j7
        rw [h3] at her
        exact ⟨_, rfl, fun _ => ⟨by omega, by omega, her F M3 rfl (y_fr_tr (y_fr_fe f1) (y_fr_tr (y_fr_fe f2) (y_fr_fe f3))) j7⟩, fun z => absurd rfl z⟩
    · intro F M2 h2 f2 k7
      rw [h2] at her
      exact ⟨_, rfl, fun _ => ⟨by omega, by omega, her F M2 rfl (y_fr_tr (y_fr_fe f1) (y_fr_fe f2)) k7⟩, fun z => absurd rfl z⟩
theorem p_63 {b : Int → Int} {n : Int} {M : jm_Mem} {Q : jm_Q} (hb : M 66 = b) (hby : l_by b) (n0 : 0 ≤ n) (n1 : n ≤ 600) (hok : ∀ w h ls M', y_tx b n = .ok (w, h, ls) → y_fl M M' → M' 65 1 = 0 → y_dr w h (y_fo w h y_0 ls) M' → Q (some (jm_I (ls.length : Int))) M') (her : ∀ F M', y_tx b n = .error F → y_fl M M' → M' 65 1 = 0 → Q (some (jm_I (-2 - F))) M') : jm_cl 63 [jm_R 65, jm_I n, jm_R 16] M Q := by
  refine sc_63 ?_
  generalize hM0 : jm_st (jm_st (jm_st (jm_st M 65 2 n) 65 1 0) 65 3 0) 65 7 0 = M0
  have f0 : y_fl M M0 := by
    intro c c1 _ _ _ _ _
    rw [← hM0]
    rw [jm_st_e, if_neg c1, jm_st_e, if_neg c1, jm_st_e, if_neg c1, jm_st_e, if_neg c1]
  have q2 : M0 65 2 = n := by rw [← hM0]; rfl
  have q1 : M0 65 1 = 0 := by rw [← hM0]; rfl
  have q3 : M0 65 3 = 0 := by rw [← hM0]; rfl
  have q7 : M0 65 7 = 0 := by rw [← hM0]; rfl
  have ht : y_tp b n M0 := ⟨by rw [f0 66 (by decide) (by decide) (by decide) (by decide) (by decide) (by decide)]; exact hb, q2⟩
  have tr : ∀ {M'}, y_fr M0 M' → y_fl M M' := fun {M'} h c a1 a2 a3 a4 a5 a6 => (h.1 c a1 a2 a3 a4 a5 a6).trans (f0 c a1 a2 a3 a4 a5 a6)
  unfold y_tx at hok her
  refine p_64 ht hby n0 n1 q3 ?_ ?_
  · intro w h q M1 h1 fr1 k7 k3 d1
    obtain ⟨g1, g2, g3⟩ := y_hd_ok n0 h1
    rw [h1] at hok her
    dsimp only at hok her
    refine ⟨_, rfl, p_63_20 hby n1 601 q 0 0 y_0 M1 (by omega) g2 g3 (by omega) g2 (by omega) g2 (y_0_gd g1) (y_tp_fr fr1 ht) k3 (by omega) d1 ?_ ?_⟩
    · intro ls M2 h2 fr2 d2
      rw [h2] at hok
      rw [Int.zero_add]
      exact hok w h ls M2 rfl (tr (y_fr_tr fr1 fr2)) (by rw [fr2.2.1, fr1.2.1, q1]) d2
    · intro F M2 h2 fr2
      rw [h2] at her
      exact her F M2 rfl (tr (y_fr_tr fr1 fr2)) (by rw [fr2.2.1, fr1.2.1, q1])
  · intro F M1 h1 fr1 k7
    have hF := y_hd_er n0 h1
    rw [h1] at her
    refine ⟨_, rfl, p_63_e (fun _ => ?_) (fun z => by omega)⟩
    rw [k7]
    exact her F M1 rfl (tr fr1) (by rw [fr1.2.1, q1])
