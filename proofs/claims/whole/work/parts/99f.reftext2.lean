/-! TEXTS: the reference, whole -/
theorem y_gh_nw {k : Int} {M M1 M2 : jm_Mem} (h : y_gh k M M1) (e : M2 999 = M1 999) : y_gh k M M2 := by
  unfold y_gh at h ⊢
  rw [e]; exact h
theorem p_147_69 {w h x1 : Int} {b : Int → Int} {n : Int} {Q : jm_Q} (hg : g_sd w h) (hby : l_by b) (n1 : n ≤ 600) : ∀ (k : Nat) (p L : Int) (M : jm_Mem), n - p < (k : Int) → 0 ≤ p → p ≤ n → 0 ≤ L → 4 * L ≤ p → l_rb b n M → M 67 9 = n → l_gx b n (l_st b n p) M → M 67 15 = 0 → M 67 17 = L → M 67 18 = w → M 67 19 = h → y_tb M → (∀ ls M', y_ls b n w h k p = .ok ls → jm_fx [73, 999] [10, 11, 12, 13, 14, 15, 17, 20] M M' → y_gh (5 * (151 - L)) M M' → M' 67 17 = L + (ls.length : Int) → y_ts (M' 73) L ls → (∀ i, i < 5 * L → M' 73 i = M 73 i) → y_tb M' → jm_run 147 (90, [some (jm_R 67), some (jm_I x1), some (jm_I 1), none], [], M') Q) → (∀ F M', y_ls b n w h k p = .error F → jm_fx [73, 999] [10, 11, 12, 13, 14, 15, 17, 20] M M' → y_gh (5 * (151 - L)) M M' → M' 67 15 = F → y_tb M' → jm_run 147 (90, [some (jm_R 67), some (jm_I x1), some (jm_I 0), none], [], M') Q) → jm_run 147 (69, [some (jm_R 67), some (jm_I x1), some (jm_I 1), none], [], M) Q
  | 0, p, L, M, hk, p0, p1, _, _, _, _, _, _, _, _, _, _, _, _ => by omega
  | k + 1, p, L, M, hk, p0, p1, L0, L1, hb, hn, hx, h15, h17, hw, hh, htb, hok, her => by
    have hs := l_st_b (b := b) p1
    have hen := l_en_b (b := b) hs.2
    unfold y_ls at hok her
    refine sg_147_69 ⟨fun z => absurd z (by decide), fun _ => ⟨fun c3 => ?_, fun c3 => ⟨fun z => absurd z (by decide), fun _ => ⟨fun c0 => ?_, fun c0 => ?_⟩⟩⟩⟩
    · rw [hx.1] at c3
      have e3 := l_en_3 c3
      rw [if_pos c3] at hok her
      refine p_139 hb hby hn n1 (hx.2.2.2.2.1 (by omega)) (by omega) hen.2 ?_
      intro M1 f1 hx1
      have f1' : jm_fx [73, 999] [10, 11, 12, 13, 14, 15, 17, 20] M M1 := jm_fx_mo f1 (fun _ h => absurd h List.not_mem_nil) (by decide)
      have q15 : M1 67 15 = 0 := by rw [f1.2 15 (by decide)]; exact h15
      have q17 : M1 67 17 = L := by rw [f1.2 17 (by decide)]; exact h17
      have q18 : M1 67 18 = w := by rw [f1.2 18 (by decide)]; exact hw
      have q19 : M1 67 19 = h := by rw [f1.2 19 (by decide)]; exact hh
      have q9 : M1 67 9 = n := by rw [f1.2 9 (by decide)]; exact hn
      have tb1 : y_tb M1 := y_tb_fx f1 (by decide) (by decide) htb
      have rb1 : l_rb b n M1 := y_rb_fx f1 (by decide) hb
      have e999 : M1 999 = M 999 := f1.1 999 (by decide) (by decide)
      have e73 : M1 73 = M 73 := f1.1 73 (by decide) (by decide)
      refine ⟨rfl, p_145 hg rb1 hby q9 n1 (by omega) hen.2 hx1 q15 q17 L0 (by omega) q18 q19 tb1 ?_ ?_⟩
      · intro ln q M2 h2 f2 gh2 s15 s17 kp2 gx2 tb2
        have h3 := y_li_ok hen.2 h2
        rw [h2] at hok her
        dsimp only at hok her
        have gh2' : y_gh 5 M M2 := by
          unfold y_gh at gh2 ⊢
          rw [e999] at gh2; exact gh2
        refine ⟨_, rfl, p_147_69 hg hby n1 k q (L + 1) M2 (by omega) (by omega) h3.2.1 (by omega) (by omega) (y_rb_fx f2 (by decide) rb1) (by rw [f2.2 9 (by decide)]; exact q9) gx2 s15 s17 (by rw [f2.2 18 (by decide)]; exact q18) (by rw [f2.2 19 (by decide)]; exact q19) tb2 ?_ ?_⟩
        · intro ls M3 h4 f3 gh3 t17 ts3 lo3 tb3
          rw [h4] at hok
          refine hok (ln :: ls) M3 rfl (jm_fx_tr f1' (jm_fx_tr f2 f3)) (y_gh_mo (y_gh_tr gh2' gh3) (by omega)) (by rw [List.length_cons]; omega) ⟨⟨?_, fun z => ⟨?_, ?_⟩, ?_, ?_⟩, ts3⟩ (fun i hi => ?_) tb3
          · rw [lo3 _ (by omega)]; exact kp2.1
          · rw [lo3 _ (by omega)]; exact (kp2.2.1 z).1
          · rw [lo3 _ (by omega)]; exact (kp2.2.1 z).2
          · rw [lo3 _ (by omega)]; exact kp2.2.2.1
          · rw [lo3 _ (by omega)]; exact kp2.2.2.2.1
          · rw [lo3 _ (by omega), kp2.2.2.2.2 i hi, e73]
        · intro F M3 h4 f3 gh3 t15 tb3
          rw [h4] at her
          exact her F M3 rfl (jm_fx_tr f1' (jm_fx_tr f2 f3)) (y_gh_mo (y_gh_tr gh2' gh3) (by omega)) t15 tb3
      · intro F M2 h2 f2 gh2 s15 tb2
        rw [h2] at her
        have gh2' : y_gh 5 M M2 := by
          unfold y_gh at gh2 ⊢
          rw [e999] at gh2; exact gh2
        exact ⟨_, rfl, sg_147_69 ⟨fun _ => ⟨fun _ => her F M2 rfl (jm_fx_tr f1' f2) (y_gh_mo gh2' (by omega)) s15 tb2, fun z => absurd rfl z⟩, fun z => absurd rfl z⟩⟩
    · rw [hx.1] at c0
      rw [if_neg (by omega), if_pos c0] at hok
      exact hok [] M rfl (jm_fx_rfl _ _ _) (y_gh_mo (y_gh_rfl M) (by omega)) (by rw [List.length_nil]; omega) trivial (fun _ _ => rfl) htb
    · rw [hx.1] at c0 c3
      rw [if_neg c3, if_neg c0] at her
      refine sc_141 ⟨fun _ => ?_, fun y => absurd h15 y⟩
      rw [hx.2.1]
      exact ⟨⟨by omega, by omega⟩, ⟨by omega, by omega⟩, by omega, by omega, _, rfl, her _ _ rfl (jm_fx_sx (by decide)) (y_gh_mo (y_gh_rfl M) (by omega)) (by rw [jm_s67, if_pos rfl]) htb⟩
/-- places of the reference that a text may change -/
abbrev z_is : List Int := [0, 1, 2, 8, 9, 10, 11, 12, 13, 14, 15, 17, 18, 19, 20, 33]
theorem p_147 {b : Int → Int} {m n : Int} {M : jm_Mem} {Q : jm_Q} (hb : ∀ v, 0 ≤ v → v < m → M 72 v = b v) (hby : l_by b) (hm : M 67 8 = m) (m1 : m ≤ 600) (hp : z_p M) (htb : y_tb M) (hno : ¬ (0 ≤ n ∧ n ≤ m) → Q (some (jm_I (-1))) (jm_st M 67 0 0)) (hok : ∀ w h ls M', 0 ≤ n → n ≤ m → y_tx b n = .ok (w, h, ls) → jm_fx [68, 69, 70, 71, 73, 999] z_is M M' → M' 67 8 = 0 → M' 67 33 = 0 → z_R w h (y_fo w h y_0 ls).1 (y_fo w h y_0 ls).2.1 (y_fo w h y_0 ls).2.2 (fun _ => 0) M' → y_tb M' → y_gh 760 M M' → Q (some (jm_I (ls.length : Int))) M') (her : ∀ F M', 0 ≤ n → n ≤ m → y_tx b n = .error F → jm_fx [73, 999] [0, 8, 9, 10, 11, 12, 13, 14, 15, 17, 18, 19, 20] M M' → M' 67 8 = 0 → y_tb M' → y_gh 760 M M' → Q (some (jm_I (-2 - F))) M') : jm_cl 147 [jm_R 67, jm_I n] M Q := by
  refine sc_147 ?_
  rw [e_119]
  have e8 : jm_st M 67 0 0 67 8 = m := hm
  rw [e8]
  refine ⟨_, rfl, fun z => hno (jm_B0.1 z), fun z => ?_⟩
  have z := jm_Bn.1 z
  obtain ⟨n0, nm⟩ := z
  have hs := l_st_b (b := b) n0
  have hen := l_en_b (b := b) hs.2
  generalize hM0 : jm_st (jm_st (jm_st (jm_st (jm_st (jm_st M 67 0 0) 67 9 n) 67 8 0) 67 11 0) 67 15 0) 67 17 0 = M0
  have f0 : jm_fx [73, 999] [0, 8, 9, 10, 11, 12, 13, 14, 15, 17, 18, 19, 20] M M0 := by
    rw [← hM0]
    exact jm_fx_tr (jm_fx_sx (by decide)) (jm_fx_tr (jm_fx_sx (by decide)) (jm_fx_tr (jm_fx_sx (by decide)) (jm_fx_tr (jm_fx_sx (by decide)) (jm_fx_tr (jm_fx_sx (by decide)) (jm_fx_sx (by decide))))))
  have q9 : M0 67 9 = n := by rw [← hM0]; rfl
  have q8 : M0 67 8 = 0 := by rw [← hM0]; rfl
  have q11 : M0 67 11 = 0 := by rw [← hM0]; rfl
  have q15 : M0 67 15 = 0 := by rw [← hM0]; rfl
  have q17 : M0 67 17 = 0 := by rw [← hM0]; rfl
  have tb0 : y_tb M0 := by rw [← hM0]; exact htb
  have rb0 : l_rb b n M0 := fun v v0 v1 => by rw [← hM0]; exact hb v v0 (by omega)
  have g0 : y_gh 0 M M0 := by rw [← hM0]; exact y_gh_rfl M
  have n1 : n ≤ 600 := by omega
  unfold y_tx at hok her
  refine p_139 rb0 hby q9 n1 q11 (by omega) n0 ?_
  intro M1 f1 hx1
  have f1' : jm_fx [73, 999] [0, 8, 9, 10, 11, 12, 13, 14, 15, 17, 18, 19, 20] M M1 := jm_fx_tr f0 (jm_fx_mo f1 (fun _ h => absurd h List.not_mem_nil) (by decide))
  refine ⟨rfl, ⟨by omega, by omega⟩, ⟨by omega, by omega⟩, ⟨by omega, by omega⟩, ⟨by omega, by omega⟩, ⟨by omega, by omega⟩, ?_⟩
  have hx2 : l_gx b n (l_st b n 0) (jm_gh M1 1 5) := y_gh_gx hx1
  have f2 : jm_fx [73, 999] [0, 8, 9, 10, 11, 12, 13, 14, 15, 17, 18, 19, 20] M (jm_gh M1 1 5) := jm_fx_tr f1' (jm_fx_mo (y_gh_fx M1 []) (by decide) (fun _ h => absurd h List.not_mem_nil))
  have g2 : y_gh 1 M (jm_gh M1 1 5) := by
    have := y_gh_tr (y_gh_nw g0 (f1.1 999 (by decide) (by decide))) (y_gh_1 M1)
    exact y_gh_mo this (by omega)
  have tb2 : y_tb (jm_gh M1 1 5) := by
    have t1 := y_tb_fx f1 (by decide) (by decide) tb0
    exact y_tb_fx (y_gh_fx M1 []) (by decide) (by decide) t1
  have p15 : jm_gh M1 1 5 67 15 = 0 := by
    show M1 67 15 = 0
    rw [f1.2 15 (by decide)]; exact q15
  have p17 : jm_gh M1 1 5 67 17 = 0 := by
    show M1 67 17 = 0
    rw [f1.2 17 (by decide)]; exact q17
  have p8 : jm_gh M1 1 5 67 8 = 0 := by
    show M1 67 8 = 0
    rw [f1.2 8 (by decide)]; exact q8
  have p9 : jm_gh M1 1 5 67 9 = n := by
    show M1 67 9 = n
    rw [f1.2 9 (by decide)]; exact q9
  generalize jm_gh M1 1 5 = M2 at *
  have rb2 : l_rb b n M2 := fun v v0 v1 => by rw [f2.1 72 (by decide) (by decide)]; exact hb v v0 (by omega)
  have bad : ∀ M4 F, y_tx b n = .error F → jm_fx [73, 999] [0, 8, 9, 10, 11, 12, 13, 14, 15, 17, 18, 19, 20] M M4 → y_gh 760 M M4 → M4 67 8 = 0 → M4 67 15 = F → y_tb M4 → (∀ M', jm_fx [73, 999] [0, 8, 9, 10, 11, 12, 13, 14, 15, 17, 18, 19, 20] M M' → M' 67 8 = 0 → y_tb M' → y_gh 760 M M' → Q (some (jm_I (-2 - F))) M') → jm_run 147 (90, [some (jm_R 67), some (jm_I n), some (jm_I 0), none], [], M4) Q := by
    intro M4 F hF a1 a2 a3 a4 a5 hq
    have := y_tx_er n0 hF
    refine sg_147_90 ⟨fun _ => ?_, fun z => absurd rfl z⟩
    rw [a4]
    exact ⟨⟨by omega, by omega⟩, hq M4 a1 a3 a5 a2⟩
  have skip : ∀ M4, jm_run 147 (90, [some (jm_R 67), some (jm_I n), some (jm_I 0), none], [], M4) Q → jm_run 147 (69, [some (jm_R 67), some (jm_I n), some (jm_I 0), none], [], M4) Q := fun M4 hr => sg_147_69 ⟨fun _ => ⟨fun _ => hr, fun z => absurd rfl z⟩, fun z => absurd rfl z⟩
  have hspell : jm_spelt 103 114 105 100 0 = l_27 [100, 105, 114, 103] := by decide
  rw [r_140 (W := [100, 105, 114, 103]) hs.2 hx2 (by decide) (by decide) hspell]
  have txe : ∀ F, y_hd b n = .error F → y_tx b n = .error F := by
    intro F hF
    unfold y_tx
    rw [hF]
  have y_hd_u : y_hd b n = (if l_is b n (l_st b n 0) [100, 105, 114, 103] then match y_wh b n (l_en b n (l_st b n 0)) 2 6 with | .error F => .error F | .ok (w, q) => match y_wh b n q 2 6 with | .error F => .error F | .ok (h, q1) => .ok (w, h, q1) else .error (8 * l_st b n 0 + 1)) := rfl
  refine ⟨_, rfl, fun z1 => ?_, fun z1 => ?_⟩
  · have z1 := jm_B0.1 z1
    rw [if_neg z1] at y_hd_u
    refine sc_141 ⟨fun _ => ?_, fun y => absurd p15 y⟩
    rw [hx2.2.1]
    refine ⟨⟨by omega, by omega⟩, ⟨by omega, by omega⟩, by omega, by omega, _, rfl, fun _ => ?_, fun z => absurd rfl z⟩
    refine sg_147_44 ⟨fun _ => ⟨fun _ => skip _ (bad _ _ (txe _ y_hd_u) (jm_fx_tr f2 (jm_fx_sx (by decide))) (y_gh_mo g2 (by omega)) p8 (by rw [jm_s67, if_pos rfl]) tb2 ?_), fun z => absurd rfl z⟩, fun z => absurd rfl z⟩
    intro M' a1 a2 a3 a4
    rw [y_hd_u] at her
    exact her _ M' n0 nm rfl a1 a2 a3 a4
  · have z1 := jm_Bn.1 z1
    rw [if_pos z1] at y_hd_u
    refine sg_147_44 ⟨fun z => absurd z (by decide), fun _ => p_139 rb2 hby p9 n1 (hx2.2.2.2.2.1 (by have := z1.1; omega)) (by omega) hen.2 ?_⟩
    intro M3 f3 hx3
    have f3' : jm_fx [73, 999] [0, 8, 9, 10, 11, 12, 13, 14, 15, 17, 18, 19, 20] M M3 := jm_fx_tr f2 (jm_fx_mo f3 (fun _ h => absurd h List.not_mem_nil) (by decide))
    have rb3 : l_rb b n M3 := y_rb_fx f3 (by decide) rb2
    have o9 : M3 67 9 = n := by rw [f3.2 9 (by decide)]; exact p9
    have o15 : M3 67 15 = 0 := by rw [f3.2 15 (by decide)]; exact p15
    have tb3 : y_tb M3 := y_tb_fx f3 (by decide) (by decide) tb2
    refine ⟨rfl, p_142 rb3 hby o9 n1 (by omega) hen.2 hx3 o15 ?_ ?_⟩
    · intro w q M4 h4 f4 s15 s20 gx4
      obtain ⟨b1, b2, b3, b4⟩ := y_wh_ok hen.2 h4
      rw [h4] at y_hd_u
      dsimp only at y_hd_u
      refine ⟨_, rfl, fun z => absurd z (by decide), fun _ => ?_⟩
      rw [s20]
      have f4' : jm_fx [73, 999] [0, 8, 9, 10, 11, 12, 13, 14, 15, 17, 18, 19, 20] M (jm_st M4 67 18 w) := jm_fx_tr f3' (jm_fx_tr (jm_fx_mo f4 (fun _ h => absurd h List.not_mem_nil) (by decide)) (jm_fx_sx (by decide)))
      have rb4 : l_rb b n (jm_st M4 67 18 w) := fun v v0 v1 => by rw [f4'.1 72 (by decide) (by decide)]; exact hb v v0 (by omega)
      have v9 : jm_st M4 67 18 w 67 9 = n := by
        show M4 67 9 = n
        rw [f4.2 9 (by decide)]; exact o9
      have v8 : M4 67 8 = 0 := by rw [f4.2 8 (by decide), f3.2 8 (by decide)]; exact p8
      have v17 : M4 67 17 = 0 := by rw [f4.2 17 (by decide), f3.2 17 (by decide)]; exact p17
      have g4 : y_gh 1 M (jm_st M4 67 18 w) := y_gh_nw g2 (by show M4 999 = M2 999; rw [f4.1 999 (by decide) (by decide), f3.1 999 (by decide) (by decide)])
      have tb4 : y_tb (jm_st M4 67 18 w) := by
        refine ⟨fun i => ?_, ?_, ?_⟩
        · show -99 ≤ M4 73 i ∧ M4 73 i ≤ 99
          rw [f4.1 73 (by decide) (by decide)]; exact tb3.1 i
        · show -99 ≤ M4 67 20
          rw [s20]; omega
        · show M4 67 20 ≤ 99
          rw [s20]; omega
      refine p_142 rb4 hby v9 n1 (by omega) b4 gx4 s15 ?_ ?_
      · intro h q1 M5 h5 f5 t15 t20 gx5
        obtain ⟨c1, c2, c3, c4⟩ := y_wh_ok b4 h5
        rw [h5] at y_hd_u
        dsimp only at y_hd_u
        rw [y_hd_u] at hok her
        dsimp only at hok her
        refine ⟨_, rfl, ?_⟩
        rw [t20]
        have f5' : jm_fx [73, 999] [0, 8, 9, 10, 11, 12, 13, 14, 15, 17, 18, 19, 20] M (jm_st M5 67 19 h) := jm_fx_tr f4' (jm_fx_tr (jm_fx_mo f5 (fun _ h => absurd h List.not_mem_nil) (by decide)) (jm_fx_sx (by decide)))
        have rb5 : l_rb b n (jm_st M5 67 19 h) := fun v v0 v1 => by rw [f5'.1 72 (by decide) (by decide)]; exact hb v v0 (by omega)
        have w9 : jm_st M5 67 19 h 67 9 = n := by
          show M5 67 9 = n
          rw [f5.2 9 (by decide)]; exact v9
        have w8 : M5 67 8 = 0 := by rw [f5.2 8 (by decide)]; exact v8
        have w17 : M5 67 17 = 0 := by rw [f5.2 17 (by decide)]; exact v17
        have w18 : M5 67 18 = w := by rw [f5.2 18 (by decide)]; rfl
        have g5 : y_gh 1 M (jm_st M5 67 19 h) := y_gh_nw g4 (by show M5 999 = _; rw [f5.1 999 (by decide) (by decide)])
        have tb5 : y_tb (jm_st M5 67 19 h) := by
          refine ⟨fun i => ?_, ?_, ?_⟩
          · show -99 ≤ M5 73 i ∧ M5 73 i ≤ 99
            rw [f5.1 73 (by decide) (by decide)]; exact tb4.1 i
          · show -99 ≤ M5 67 20
            rw [t20]; omega
          · show M5 67 20 ≤ 99
            rw [t20]; omega
        refine p_147_69 (w := w) (h := h) ⟨b1, b2, c1, c2⟩ hby n1 601 q1 0 _ (by omega) (by omega) c4 (by omega) (by omega) rb5 w9 gx5 t15 w17 w18 rfl tb5 ?_ ?_
        · intro ls M6 h6 f6 g6 x17 ts6 lo6 tb6
          rw [h6] at hok
          have okk := y_ls_ok 601 q1 ls c4 h6
          have f6' : jm_fx [73, 999] [0, 8, 9, 10, 11, 12, 13, 14, 15, 17, 18, 19, 20] M M6 := jm_fx_tr f5' (jm_fx_mo f6 (by decide) (by decide))
          have y18 : M6 67 18 = w := by rw [f6.2 18 (by decide)]; exact w18
          have y19 : M6 67 19 = h := by rw [f6.2 19 (by decide)]; rfl
          refine sg_147_90 ⟨fun z => absurd z (by decide), fun _ => ?_⟩
          rw [y18, y19]
          refine p_120 ?_ ?_
          · unfold z_p
            rw [f6'.1 68 (by decide) (by decide), f6'.1 69 (by decide) (by decide), f6'.1 70 (by decide) (by decide), f6'.1 71 (by decide) (by decide)]
            exact hp
          · intro M7 f7 k33 R7
            have z17 : M7 67 17 = 0 + (ls.length : Int) := by rw [f7.2 17 (by decide)]; exact x17
            refine ⟨rfl, p_147_105 ls 0 y_0 M7 (by rw [f7.1 73 (by decide) (by decide)]; exact ts6) z17 okk.2 (by omega) (by omega) (y_0_gd ⟨b1, b2, c1, c2⟩) ⟨R7.1, R7.2.1, R7.2.2.1⟩ (y_tb_fx f7 (by decide) (by decide) tb6) ?_⟩
            intro M8 f8 R8
            rw [z17, Int.zero_add]
            refine hok w h ls M8 n0 nm rfl ?_ ?_ ?_ ⟨R8.1, R8.2.1, R8.2.2, ?_⟩ ?_ ?_
            · exact jm_fx_tr (jm_fx_mo f6' (by decide) (by decide)) (jm_fx_tr (jm_fx_mo f7 (by decide) (by decide)) (jm_fx_mo f8 (by decide) (by decide)))
            · rw [f8.2 8 (by decide), f7.2 8 (by decide), f6.2 8 (by decide)]; exact w8
            · rw [f8.2 33 (by decide)]; exact k33
            · rw [f8.1 71 (by decide) (by decide)]; exact R7.2.2.2
            · exact y_tb_fx f8 (by decide) (by decide) (y_tb_fx f7 (by decide) (by decide) tb6)
            · have g7 := y_gh_tr g5 g6
              refine y_gh_nw (y_gh_mo g7 (by omega)) ?_
              rw [f8.1 999 (by decide) (by decide), f7.1 999 (by decide) (by decide)]
        · intro F M6 h6 f6 g6 x15 tb6
          rw [h6] at her
          have f6' : jm_fx [73, 999] [0, 8, 9, 10, 11, 12, 13, 14, 15, 17, 18, 19, 20] M M6 := jm_fx_tr f5' (jm_fx_mo f6 (by decide) (by decide))
          refine bad M6 F ?_ f6' (y_gh_mo (y_gh_tr g5 g6) (by omega)) (by rw [f6.2 8 (by decide)]; exact w8) x15 tb6 (fun M' a1 a2 a3 a4 => her F M' n0 nm rfl a1 a2 a3 a4)
          unfold y_tx
          rw [y_hd_u]
          dsimp only
          rw [h6]
      · intro F M5 h5 f5 t15 t20
        rw [h5] at y_hd_u
        dsimp only at y_hd_u
        refine ⟨_, rfl, ?_⟩
        rw [t20]
        have tb5 : y_tb (jm_st M5 67 19 (jm_st M4 67 18 w 67 20)) := by
          refine ⟨fun i => ?_, ?_, ?_⟩
          · show -99 ≤ M5 73 i ∧ M5 73 i ≤ 99
            rw [f5.1 73 (by decide) (by decide)]; exact tb4.1 i
          · show -99 ≤ M5 67 20
            rw [t20]; exact tb4.2.1
          · show M5 67 20 ≤ 99
            rw [t20]; exact tb4.2.2
        refine skip _ (bad _ F (txe F y_hd_u) (jm_fx_tr f4' (jm_fx_tr (jm_fx_mo f5 (fun _ h => absurd h List.not_mem_nil) (by decide)) (jm_fx_sx (by decide)))) (y_gh_mo (y_gh_nw g4 (by show M5 999 = _; rw [f5.1 999 (by decide) (by decide)])) (by omega)) (by show M5 67 8 = 0; rw [f5.2 8 (by decide)]; exact v8) t15 tb5 ?_)
        intro M' a1 a2 a3 a4
        rw [y_hd_u] at her
        exact her _ M' n0 nm rfl a1 a2 a3 a4
    · intro F M4 h4 f4 s15 s20
      rw [h4] at y_hd_u
      dsimp only at y_hd_u
      have tb4 : y_tb (jm_st M4 67 18 (M4 67 20)) := by
        refine ⟨fun i => ?_, ?_, ?_⟩
        · show -99 ≤ M4 73 i ∧ M4 73 i ≤ 99
          rw [f4.1 73 (by decide) (by decide)]; exact tb3.1 i
        · show -99 ≤ M4 67 20
          rw [s20]; exact tb3.2.1
        · show M4 67 20 ≤ 99
          rw [s20]; exact tb3.2.2
      refine ⟨_, rfl, fun _ => skip _ (bad _ F (txe F y_hd_u) (jm_fx_tr f3' (jm_fx_tr (jm_fx_mo f4 (fun _ h => absurd h List.not_mem_nil) (by decide)) (jm_fx_sx (by decide)))) (y_gh_mo (y_gh_nw g2 (by show M4 999 = _; rw [f4.1 999 (by decide) (by decide), f3.1 999 (by decide) (by decide)])) (by omega)) (by show M4 67 8 = 0; rw [f4.2 8 (by decide), f3.2 8 (by decide)]; exact p8) s15 tb4 ?_), fun z => absurd rfl z⟩
      intro M' a1 a2 a3 a4
      rw [y_hd_u] at her
      exact her _ M' n0 nm rfl a1 a2 a3 a4
