/-! TEXTS: the reference's line -/
theorem p_145 {w h : Int} {M : jm_Mem} {b : Int → Int} {n p L : Int} {Q : jm_Q} (hg : g_sd w h) (hb : l_rb b n M) (hby : l_by b) (hn : M 67 9 = n) (n1 : n ≤ 600) (p0 : 0 ≤ p) (p1 : p ≤ n) (hx : l_gx b n (l_st b n p) M) (h15 : M 67 15 = 0) (hL : M 67 17 = L) (L0 : 0 ≤ L) (L1 : L ≤ 150) (hw : M 67 18 = w) (hh : M 67 19 = h) (htb : y_tb M) (hok : ∀ ln q M', y_li b n w h p = .ok (ln, q) → jm_fx [73, 999] [10, 11, 12, 13, 14, 15, 17, 20] M M' → y_gh 5 M M' → M' 67 15 = 0 → M' 67 17 = L + 1 → y_kp L ln M M' → l_gx b n (l_st b n q) M' → y_tb M' → Q (some (jm_I 1)) M') (her : ∀ F M', y_li b n w h p = .error F → jm_fx [73, 999] [10, 11, 12, 13, 14, 15, 17, 20] M M' → y_gh 5 M M' → M' 67 15 = F → y_tb M' → Q (some (jm_I 0)) M') : jm_cl 145 [jm_R 67] M Q := by
  have hs : p ≤ l_st b n p ∧ l_st b n p ≤ n := l_sk_b (b := b) (P := l_w) (n := n) p p1
  have hen : l_st b n p ≤ l_en b n (l_st b n p) ∧ l_en b n (l_st b n p) ≤ n := l_en_b hs.2
  have hwk := y_wk_b (b := b) (n := n) (s := l_st b n p)
  obtain ⟨g1, g2, g3, g4⟩ := id hg
  refine sc_145 (p_143 hs.2 hx ?_)
  intro M1 f1 gh1 hx1
  have mo1 : jm_fx [73, 999] [10, 11, 12, 13, 14, 15, 17, 20] M M1 := jm_fx_mo f1 (by decide) (fun _ h => absurd h List.not_mem_nil)
  have q15 : M1 67 15 = 0 := by rw [f1.2 15 (by decide)]; exact h15
  have q17 : M1 67 17 = L := by rw [f1.2 17 (by decide)]; exact hL
  have tb1 : y_tb M1 := by
    unfold y_tb
    rw [f1.1 73 (by decide) (by decide), f1.2 20 (by decide)]
    exact htb
  unfold y_li at hok her
  refine ⟨_, rfl, fun z => ?_, fun z => ?_⟩
  · rw [if_pos z] at her
    refine sc_141 ⟨fun _ => ?_, fun y => absurd q15 y⟩
    rw [hx1.2.1]
    refine ⟨⟨by omega, by omega⟩, ⟨by omega, by omega⟩, by omega, by omega, _, rfl, by omega, by omega, her _ _ rfl (jm_fx_tr mo1 (jm_fx_sx (by decide))) gh1 (by rw [jm_s67, if_pos rfl]) tb1⟩
  · rw [if_neg z] at hok her
    have hk1 := hwk.2.2 (by omega)
    generalize hgk : y_wk b n (l_st b n p) = k at *
    rw [q17]
    have m11 : jm_st M1 73 (5 * L) k 67 11 = l_en b n (l_st b n p) := hx1.2.2.2.2.1 (by omega)
    refine ⟨⟨by omega, by omega⟩, by omega, by omega, p_139 (M := jm_st M1 73 (5 * L) k) (show l_rb b n M1 from y_rb_fx f1 (by decide) hb) hby (by show M1 67 9 = n; rw [f1.2 9 (by decide)]; exact hn) n1 m11 (by omega) hen.2 ?_⟩
    intro M3 f3 hx3
    have f3' : jm_fx [73, 999] [10, 11, 12, 13, 14, 15, 17, 20] M M3 := jm_fx_tr mo1 (jm_fx_tr (jm_fx_st (by decide) (by decide)) (jm_fx_mo f3 (fun _ h => absurd h List.not_mem_nil) (by decide)))
    have r15 : M3 67 15 = 0 := by rw [f3.2 15 (by decide)]; exact q15
    have r17 : M3 67 17 = L := by rw [f3.2 17 (by decide)]; exact q17
    have r9 : M3 67 9 = n := by rw [f3'.2 9 (by decide)]; exact hn
    have r18 : M3 67 18 = w := by rw [f3'.2 18 (by decide)]; exact hw
    have r19 : M3 67 19 = h := by rw [f3'.2 19 (by decide)]; exact hh
    have r73 : M3 73 = jm_up (M 73) (5 * L) k := by
      rw [f3.1 73 (by decide) (by decide), jm_st_e, if_pos rfl, f1.1 73 (by decide) (by decide)]
    have r20 : M3 67 20 = M 67 20 := by
      rw [f3.2 20 (by decide)]; exact f1.2 20 (by decide)
    have tb3 : y_tb M3 := y_tb_up htb r73 (by omega) (by rw [r20]; exact htb.2)
    have gh3 : y_gh 5 M M3 := by
      have e : M3 999 = M1 999 := by rw [f3.1 999 (by decide) (by decide), jm_st_e, if_neg (by decide)]
      unfold y_gh at gh1 ⊢
      rw [e]; exact gh1
    have rb3 : l_rb b n M3 := y_rb_fx f3' (by decide) hb
    have ghs : ∀ {M4 M5 : jm_Mem} {is : List Int}, y_gh 5 M M4 → jm_fx [73] is M4 M5 → y_gh 5 M M5 := by
      intro M4 M5 is h1 h2
      unfold y_gh at h1 ⊢
      rw [h2.1 999 (by decide) (by decide)]; exact h1
    refine ⟨rfl, fun k4 => ?_, fun k4 => ?_⟩
    · unfold y_xy at hok her
      rw [if_pos k4] at hok her
      dsimp only at hok her
      refine p_145_fg rb3 hby r9 n1 (by omega) hen.2 hx3 r15 r17 L0 L1 tb3 ?_ ?_
      · intro f g q M4 h4 f4 s15 s17 s73 gx4 tb4
        rw [h4] at hok
        refine hok _ q M4 rfl (jm_fx_tr f3' (jm_fx_mo f4 (by decide) (fun _ h => h))) (ghs gh3 f4) s15 s17 ⟨?_, fun y => absurd k4 y, ?_, ?_, fun i hi => ?_⟩ gx4 tb4
        · rw [s73, jm_up_o (by omega), jm_up_o (by omega), r73, jm_up_s]
        · rw [s73, jm_up_o (by omega), jm_up_s]
        · rw [s73, jm_up_s]
        · rw [s73, jm_up_o (by omega), jm_up_o (by omega), r73, jm_up_o (by omega)]
      · intro F M4 h4 f4 s15 tb4
        rw [h4] at her
        exact her F M4 rfl (jm_fx_tr f3' (jm_fx_mo f4 (by decide) (fun _ h => h))) (ghs gh3 f4) s15 tb4
    · have fin : ∀ (s0 : Int), (s0 = if k = 1 then 1 else 2) → jm_run 145 (35, [some (jm_R 67), some (jm_I k), some (jm_I (5 * L)), none], [jm_I s0, jm_I w, jm_I 0, jm_I 1, jm_R 67], M3) Q := by
        intro s0 hs0
        unfold y_xy at hok her
        rw [if_neg k4, ← hs0] at hok her
        have s0b : 1 ≤ s0 ∧ s0 ≤ 2 := by
          by_cases y : k = 1
          · rw [if_pos y] at hs0; omega
          · rw [if_neg y] at hs0; omega
        have bad : ∀ M4 F, jm_fx [73, 999] [10, 11, 12, 13, 14, 15, 17, 20] M M4 → y_gh 5 M M4 → M4 67 15 = F → y_tb M4 → (∀ M', jm_fx [73, 999] [10, 11, 12, 13, 14, 15, 17, 20] M M' → y_gh 5 M M' → M' 67 15 = F → y_tb M' → Q (some (jm_I 0)) M') → jm_run 145 (53, [some (jm_R 67), some (jm_I k), some (jm_I (5 * L)), none], [], M4) Q := fun M4 F a1 a2 a3 a4 hq => sg_145_53 ⟨fun _ => ⟨by omega, by omega, hq M4 a1 a2 a3 a4⟩, fun y => absurd rfl y⟩
        refine sg_145_35 ⟨⟨by omega, by omega⟩, p_144 rb3 hby r9 n1 (by omega) hen.2 hx3 r15 r17 L0 L1 (by omega) (by omega) ?_ ?_⟩
        · intro x q1 M4 h4 f4 s15 s20 s73 gx4
          obtain ⟨b1, b2, b3, b4⟩ := y_wh_ok hen.2 h4
          rw [h4] at hok her
          dsimp only at hok her
          have f4' : jm_fx [73, 999] [10, 11, 12, 13, 14, 15, 17, 20] M M4 := jm_fx_tr f3' (jm_fx_mo f4 (by decide) (by decide))
          have tb4 : y_tb M4 := y_tb_up tb3 s73 (by omega) (by rw [s20]; omega)
          have gh4 := ghs gh3 f4
          have t19 : M4 67 19 = h := by rw [f4'.2 19 (by decide)]; exact hh
          have nxt : ∀ (t0 : Int), (t0 = if k = 0 then 1 else 2) → jm_run 145 (48, [some (jm_R 67), some (jm_I k), some (jm_I (5 * L)), none], [jm_I t0, jm_I h, jm_I 0, jm_I 2, jm_R 67], M4) Q := by
            intro t0 ht0
            rw [← ht0] at hok her
            have t0b : 1 ≤ t0 ∧ t0 ≤ 2 := by
              by_cases y : k = 0
              · rw [if_pos y] at ht0; omega
              · rw [if_neg y] at ht0; omega
            refine sg_145_48 ⟨⟨by omega, by omega⟩, p_144 (y_rb_fx f4' (by decide) hb) hby (by rw [f4'.2 9 (by decide)]; exact hn) n1 (by omega) b4 gx4 s15 (by rw [f4.2 17 (by decide)]; exact r17) L0 L1 (by omega) (by omega) ?_ ?_⟩
            · intro y q2 M5 h5 f5 u15 u20 u73 gx5
              obtain ⟨c1, c2, c3, c4⟩ := y_wh_ok b4 h5
              rw [h5] at hok her
              dsimp only at hok her
              have f5' : jm_fx [73, 999] [10, 11, 12, 13, 14, 15, 17, 20] M M5 := jm_fx_tr f4' (jm_fx_mo f5 (by decide) (by decide))
              have tb5 : y_tb M5 := y_tb_up tb4 u73 (by omega) (by rw [u20]; omega)
              have gh5 := ghs gh4 f5
              refine ⟨_, rfl, fun y => by omega, fun _ => ⟨fun y => by omega, fun _ => ?_⟩⟩
              refine p_145_fg (y_rb_fx f5' (by decide) hb) hby (by rw [f5'.2 9 (by decide)]; exact hn) n1 (by omega) c4 gx5 u15 (by rw [f5.2 17 (by decide), f4.2 17 (by decide)]; exact r17) L0 L1 tb5 ?_ ?_
              · intro f g q M6 h6 f6 v15 v17 v73 gx6 tb6
                rw [h6] at hok
                refine hok _ q M6 rfl (jm_fx_tr f5' (jm_fx_mo f6 (by decide) (fun _ h => h))) (ghs gh5 f6) v15 v17 ⟨?_, fun _ => ⟨?_, ?_⟩, ?_, ?_, fun i hi => ?_⟩ gx6 tb6
                · rw [v73, jm_up_o (by omega), jm_up_o (by omega), u73, jm_up_o (by omega), s73, jm_up_o (by omega), r73, jm_up_s]
                · rw [v73, jm_up_o (by omega), jm_up_o (by omega), u73, jm_up_o (by omega), s73, jm_up_s]
                · rw [v73, jm_up_o (by omega), jm_up_o (by omega), u73, jm_up_s]
                · rw [v73, jm_up_o (by omega), jm_up_s]
                · rw [v73, jm_up_s]
                · rw [v73, jm_up_o (by omega), jm_up_o (by omega), u73, jm_up_o (by omega), s73, jm_up_o (by omega), r73, jm_up_o (by omega)]
              · intro F M6 h6 f6 v15 tb6
                rw [h6] at her
                exact her F M6 rfl (jm_fx_tr f5' (jm_fx_mo f6 (by decide) (fun _ h => h))) (ghs gh5 f6) v15 tb6
            · intro F M5 h5 f5 u15 u20 u73
              rw [h5] at her
              have tb5 : y_tb M5 := y_tb_up tb4 u73 tb4.2 (by rw [u20]; exact tb4.2)
              exact ⟨_, rfl, fun _ => bad M5 F (jm_fx_tr f4' (jm_fx_mo f5 (by decide) (by decide))) (ghs gh4 f5) u15 tb5 (fun M' a1 a2 a3 a4 => her F M' rfl a1 a2 a3 a4), fun y => absurd rfl y⟩
          rw [t19]
          exact ⟨_, rfl, fun y => by omega, fun _ => ⟨fun y => nxt 1 (if_pos y).symm, fun y => nxt 2 (if_neg y).symm⟩⟩
        · intro F M4 h4 f4 s15 s20 s73
          rw [h4] at her
          have tb4 : y_tb M4 := y_tb_up tb3 s73 tb3.2 (by rw [s20]; exact tb3.2)
          exact ⟨_, rfl, fun _ => bad M4 F (jm_fx_tr f3' (jm_fx_mo f4 (by decide) (by decide))) (ghs gh3 f4) s15 tb4 (fun M' a1 a2 a3 a4 => her F M' rfl a1 a2 a3 a4), fun y => absurd rfl y⟩
      rw [r18]
      exact ⟨fun y => fin 1 (if_pos y).symm, fun y => fin 2 (if_neg y).symm⟩
