/-! TEXTS: the class reads one edge's line -/
abbrev y_kh (kd how k : Int) : Prop := (kd = 0 ∧ how = 0 ∧ k = 0) ∨ (kd = 1 ∧ how = 0 ∧ k = 1) ∨ (kd = 2 ∧ how = 1 ∧ k = 2) ∨ (kd = 2 ∧ how = 2 ∧ k = 3)
theorem p_68 {w h : Int} {G : y_G} {b : Int → Int} {n p kd how k : Int} {M : jm_Mem} {Q : jm_Q} (hk : y_kh kd how k) (hg : g_ok w h G.1) (ht : y_tp b n M) (hby : l_by b) (n1 : n ≤ 600) (hp : M 65 3 = p) (p0 : 0 ≤ p) (p1 : p ≤ n) (hd : y_dr w h G M) (hok : ∀ x y q0 f g q M', y_xy b n w h k p = .ok (x, y, q0) → y_fg b n q0 = .ok (f, g, q) → y_fr M M' → M' 65 7 = M 65 7 → M' 65 3 = q → y_dr w h (y_ap w h (k, x, y, f, g) G) M' → Q (some (jm_I 1)) M') (her : ∀ F M', (y_xy b n w h k p = .error F ∨ ∃ x y q0, y_xy b n w h k p = .ok (x, y, q0) ∧ y_fg b n q0 = .error F) → y_fr M M' → M' 65 7 = -2 - F → Q (some (jm_I 0)) M') : jm_cl 68 [jm_R 65, jm_R 16, jm_I kd, jm_I how] M Q := by
  obtain ⟨hcw, hch⟩ := g_cases hg.1
  have hm := g_mul hg.1
  obtain ⟨g1, g2, g3, g4⟩ := id hg.1
  have k4 : ¬ k = 4 := by omega
  have e1 : (if kd = 1 then (1 : Int) else 2) = if k = 1 then 1 else 2 := by
    by_cases z : k = 1
    · rw [if_pos z, if_pos (by omega)]
    · rw [if_neg z, if_neg (by omega)]
  have e0 : (if kd = 0 then (1 : Int) else 2) = if k = 0 then 1 else 2 := by
    by_cases z : k = 0
    · rw [if_pos z, if_pos (by omega)]
    · rw [if_neg z, if_neg (by omega)]
  unfold y_xy at hok her
  rw [if_neg k4] at hok her
  refine sc_68 ?_
  rw [e_81_Dr (by rw [hd.1, hd.2.1]; exact hg.1), hd.1, e1]
  refine ⟨_, rfl, p_69 ht hby n1 hp p0 p1 ?_ ?_⟩
  · intro x q1 M1 h1 f1 m7 m3 m6
    rw [h1] at hok her
    dsimp only at hok her
    obtain ⟨b1, b2, b3, b4⟩ := y_wh_ok p1 h1
    have ht1 := y_tp_fe f1 (by decide) ht
    have hd1 := y_dr_fe f1 hd
    refine ⟨_, rfl, fun z => by omega, fun _ => ?_⟩
    rw [e_82_Dr (by rw [hd1.1, hd1.2.1]; exact hg.1), hd1.2.1, e0]
    refine ⟨_, rfl, p_69 ht1 hby n1 m3 (by omega) b4 ?_ ?_⟩
    · intro y q2 M2 h2 f2 k7 k3 k6
      rw [h2] at hok her
      dsimp only at hok her
      obtain ⟨c1, c2, c3, c4⟩ := y_wh_ok b4 h2
      have ht2 := y_tp_fe f2 (by decide) ht1
      have hd2 := y_dr_fe f2 hd1
      have bx : x < w := by
        by_cases z : k = 1
        · rw [if_pos z] at b2; omega
        · rw [if_neg z] at b2; omega
      have by' : y < h := by
        by_cases z : k = 0
        · rw [if_pos z] at c2; omega
        · rw [if_neg z] at c2; omega
      have hnd : 0 ≤ y * w + x ∧ y * w + x < w * h ∧ 0 ≤ y * w := by
        rcases hcw with rfl | rfl | rfl | rfl | rfl <;> omega
      refine ⟨_, rfl, fun z => by omega, fun _ => ?_⟩
      rw [k6, hd2.1, m6]
      refine ⟨⟨by omega, by omega⟩, ⟨by omega, by omega⟩, p_69 ht2 hby n1 k3 (by omega) c4 ?_ ?_⟩
      · intro f q3 M3 h3 f3 l7 l3 l6
        obtain ⟨d1, d2, d3, d4⟩ := y_wh_ok c4 h3
        have ht3 := y_tp_fe f3 (by decide) ht2
        have hd3 := y_dr_fe f3 hd2
        refine ⟨_, rfl, fun z => by omega, fun _ => ?_⟩
        rw [l6, y_mx d1 d2]
        refine ⟨⟨by omega, by omega⟩, p_69 ht3 hby n1 l3 (by omega) d4 ?_ ?_⟩
        · intro g q4 M4 h4 f4 r7 r3 r6
          have hfg : y_fg b n q2 = .ok (f, g, q4) := by
            unfold y_fg
            rw [h3]
            dsimp only
            rw [h4]
          have hd4 := y_dr_fe f4 hd3
          have fr4 : y_fr M M4 := y_fr_tr (y_fr_tr (y_fr_fe f1) (y_fr_fe f2)) (y_fr_tr (y_fr_fe f3) (y_fr_fe f4))
          have ok := fun M' => hok x y q2 f g q4 M' rfl hfg
          have s7 : M4 65 7 = M 65 7 := by rw [r7, l7, k7, m7]
          clear hok her
          generalize hgn : y * w + x = m at *
          refine ⟨_, rfl, fun z => by omega, fun _ => ⟨fun u => ?_, fun u => ?_⟩⟩
          · refine sc_78_Dr ⟨by omega, by omega, by omega, by omega, ⟨by omega, by omega⟩, ⟨by omega, by omega⟩, sc_77_Dr ⟨by omega, by omega, by omega, by omega, rfl, ?_⟩⟩
            rw [u]
            refine ⟨_, rfl, ⟨by omega, by omega⟩, ⟨by omega, by omega⟩, sc_77_Dr ⟨by omega, by omega, by omega, by omega, rfl, by omega, by omega, ok _ ?_ ?_ ?_ ?_⟩⟩
            · exact y_fr_tr fr4 (y_fr_fr (cs := [17, 18, 19]) (jm_fr_tr (jm_fr_tr (jm_fr_tr (jm_fr_st (by decide)) (jm_fr_st (by decide))) (jm_fr_st (by decide))) (jm_fr_tr (jm_fr_st (by decide)) (jm_fr_st (by decide)))) (by decide))
            · exact s7
            · exact r3
            · refine ⟨hd4.1, hd4.2.1, fun v v0 v1 => ?_, fun e e0' e1' => ?_, hd4.2.2.2.2⟩
              · simp only [jm_st_e, Nat.reduceEqDiff, reduceIte]
                show jm_up (M4 17) m how v = y_sl w k x y G.1 v
                have hv := hd4.2.2.1 v v0 v1
                unfold y_sl
                rw [hgn]
                rcases hk with z | z | z | z
                · omega
                · omega
                · rw [if_pos z.2.2, z.2.1, jm_up_e, jm_up_e, hv]
                · rw [if_neg (by omega), if_pos z.2.2, z.2.1, jm_up_e, jm_up_e, hv]
              · simp only [jm_st_e, Nat.reduceEqDiff, reduceIte]
                obtain ⟨v1, v2⟩ := hd4.2.2.2.1 e e0' e1'
                have hon : y_on w h k x y (y_sl w k x y G.1) e ↔ e = 3 * m + 2 := by
                  unfold y_on
                  rw [if_neg k4, hgn, if_neg (by omega)]
                show _ = (if y_on w h k x y (y_sl w k x y G.1) e then f else G.2.1 e) ∧ _ = (if y_on w h k x y (y_sl w k x y G.1) e then g else G.2.2 e)
                rw [r6]
                by_cases z : e = 3 * m + 2
                · rw [if_pos (hon.2 z), if_pos (hon.2 z), z, jm_up_s, jm_up_s]
                  exact ⟨rfl, rfl⟩
                · rw [if_neg (fun o => z (hon.1 o)), if_neg (fun o => z (hon.1 o)), jm_up_o z, jm_up_o z, jm_up_o z, jm_up_o z]
                  exact ⟨v1, v2⟩
          · refine ⟨⟨by omega, by omega⟩, ⟨by omega, by omega⟩, sc_77_Dr ⟨by omega, by omega, by omega, by omega, rfl, by omega, by omega, ok _ ?_ ?_ ?_ ?_⟩⟩
            · exact y_fr_tr fr4 (y_fr_fr (cs := [18, 19]) (jm_fr_tr (jm_fr_st (by decide)) (jm_fr_st (by decide))) (by decide))
            · exact s7
            · exact r3
            · refine ⟨hd4.1, hd4.2.1, fun v v0 v1 => ?_, fun e e0' e1' => ?_, hd4.2.2.2.2⟩
              · show M4 17 v = y_sl w k x y G.1 v
                unfold y_sl
                rw [if_neg (by omega), if_neg (by omega)]
                exact hd4.2.2.1 v v0 v1
              · simp only [jm_st_e, Nat.reduceEqDiff, reduceIte]
                obtain ⟨v1, v2⟩ := hd4.2.2.2.1 e e0' e1'
                have hkk : kd = k := by omega
                have hon : y_on w h k x y (y_sl w k x y G.1) e ↔ e = 3 * m + kd := by
                  unfold y_on
                  rw [if_neg k4, hgn, if_pos (by omega), hkk]
                show _ = (if y_on w h k x y (y_sl w k x y G.1) e then f else G.2.1 e) ∧ _ = (if y_on w h k x y (y_sl w k x y G.1) e then g else G.2.2 e)
                rw [r6]
                by_cases z : e = 3 * m + kd
                · rw [if_pos (hon.2 z), if_pos (hon.2 z), z, jm_up_s, jm_up_s]
                  exact ⟨rfl, rfl⟩
                · rw [if_neg (fun o => z (hon.1 o)), if_neg (fun o => z (hon.1 o)), jm_up_o z, jm_up_o z]
                  exact ⟨v1, v2⟩
        · intro F M4 h4 f4 r7
          refine ⟨_, rfl, fun _ => ⟨by omega, by omega, her F M4 (Or.inr ⟨x, y, q2, rfl, ?_⟩) (y_fr_tr (y_fr_tr (y_fr_fe f1) (y_fr_fe f2)) (y_fr_tr (y_fr_fe f3) (y_fr_fe f4))) r7⟩, fun z => absurd rfl z⟩
          unfold y_fg
          rw [h3]
          dsimp only
          rw [h4]
      · intro F M3 h3 f3 l7
        refine ⟨_, rfl, fun _ => ⟨by omega, by omega, her F M3 (Or.inr ⟨x, y, q2, rfl, ?_⟩) (y_fr_tr (y_fr_tr (y_fr_fe f1) (y_fr_fe f2)) (y_fr_fe f3)) l7⟩, fun z => absurd rfl z⟩
        unfold y_fg
        rw [h3]
    · intro F M2 h2 f2 k7
      rw [h2] at her
      exact ⟨_, rfl, fun _ => ⟨by omega, by omega, her F M2 (Or.inl rfl) (y_fr_tr (y_fr_fe f1) (y_fr_fe f2)) k7⟩, fun z => absurd rfl z⟩
  · intro F M1 h1 f1 m7
    rw [h1] at her
    exact ⟨_, rfl, fun _ => ⟨by omega, by omega, her F M1 (Or.inl rfl) (y_fr_fe f1) m7⟩, fun z => absurd rfl z⟩
