/-! counts and the worst -/
section Z6
variable {w h : Int} {sl fo ba su : Int → Int} {M : jm_Mem}
theorem g_val_z {s t : Int} : (1000000 - (k_po w h sl fo ba s 1000000 (k_s0 w h sl fo ba (jm_up (fun _ => 0) t 1000000))).1 : Int) = g_val w h sl fo ba s t := rfl
theorem z_counts (hS : z_S w h sl fo ba su M) (k s t : Int) : z_stp 108 [jm_I k, jm_I s, jm_I t] 207 M := by
  obtain ⟨hz, hC, -⟩ := id hS
  obtain ⟨hT, c4, c5, c6⟩ := id hC
  have hg : g_ok w h sl := hz.1.1
  have hbo := z_bo hz
  by_cases hk : 0 ≤ k ∧ k ≤ 1
  · by_cases hP : g_nd w h s ∧ g_nd w h t ∧ s ≠ t
    · by_cases hc : g_circ w h sl fo ba
      · have hv := g_val_lt hg hbo hc hP.1 t
        generalize hN : g_val w h sl fo ba s t = now at *
        obtain ⟨v, hv'⟩ : ∃ v : Int → Int, ∀ e, z_vr w h sl fo ba e (if k = 0 then 0 else fo e + 1) (if k = 0 then 0 else ba e + 1) s t (v e) := ⟨fun e => Classical.choose (z_vr_ex (w := w) (h := h) (sl := sl) (fo := fo) (ba := ba) e (if k = 0 then 0 else fo e + 1) (if k = 0 then 0 else ba e + 1) s t), fun e => Classical.choose_spec (z_vr_ex (w := w) (h := h) (sl := sl) (fo := fo) (ba := ba) e (if k = 0 then 0 else fo e + 1) (if k = 0 then 0 else ba e + 1) s t)⟩
        have hbe : ∀ e, g_bo (jm_up fo e (if k = 0 then 0 else fo e + 1)) (jm_up ba e (if k = 0 then 0 else ba e + 1)) := by
          intro e
          have hb := hz.1.2.1 e
          dsimp only at hb
          by_cases k0 : k = 0
          · rw [if_pos k0, if_pos k0]
            exact z_bo_up hz (by omega) (by omega) (by omega)
          · rw [if_neg k0, if_neg k0]
            exact z_bo_up hz (by omega) (by omega) (by omega)
        generalize hcf : (fun e => if k = 0 then (if v e < now then (1 : Int) else 0) else (if now < v e then 1 else 0)) = cf
        have c0 : k = 0 → ∀ e, cf e = if v e < now then (1 : Int) else 0 := fun k0 e => by rw [← hcf]; exact if_pos k0
        have c1 : k = 1 → ∀ e, cf e = if now < v e then (1 : Int) else 0 := fun k1 e => by rw [← hcf]; exact if_neg (by omega)
        refine z_mk hS (g_sm cf (g_el w h sl)) ?_ ?_
        · intro Q hQ
          have L : ∀ (rest pre : List Int), pre ++ rest = g_el w h sl → ∀ n (o7 : Option jm_V) M1, z_q M M1 → 0 ≤ n → n ≤ (pre.length : Int) → g_sm cf (g_el w h sl) = n + g_sm cf rest → jm_run 108 (34, [some (jm_R 0), some (jm_I k), some (jm_I s), some (jm_I t), some (jm_I now), some (jm_I n), some (jm_I (pre.length : Int)), o7], [], M1) Q := by
            intro rest
            induction rest with
            | nil =>
              intro pre hp n o7 M1 q1 n0 n1 hn
              have hT1 := (z_C_eq q1.1 hC).1
              refine sg_108_34 ⟨fun a => absurd a (tb_nil hT1 hp), fun _ => ?_⟩
              have hn : g_sm cf (g_el w h sl) = n + 0 := hn
              rw [hn, Int.add_zero] at hQ
              exact hQ M1 q1
            | cons e rest ih =>
              intro pre hp n o7 M1 q1 n0 n1 hn
              have hC1 := z_C_eq q1.1 hC
              obtain ⟨t1', t2, t3, t4, t5, t6, t7⟩ := tb_cons hg.1 hC1.1 hp
              obtain ⟨b1, b2, -, -⟩ := g_Eb hg.1 t3
              have hb := hz.1.2.1 e
              dsimp only at hb
              have ih := ih (pre ++ [e]) t6
              rw [t7] at ih
              have hn : g_sm cf (g_el w h sl) = n + (cf e + g_sm cf rest) := hn
              have cfb : cf e = 0 ∨ cf e = 1 := by
                by_cases k0 : k = 0
                · rw [c0 k0]; split <;> omega
                · rw [c1 (by omega)]; split <;> omega
              have nx : ∀ n' M2, z_q M M2 → n' = n + cf e → jm_run 108 (82, [some (jm_R 0), some (jm_I k), some (jm_I s), some (jm_I t), some (jm_I now), some (jm_I n'), some (jm_I (pre.length : Int)), some (jm_I e)], [], M2) Q := fun n' M2 q2 hn' => sg_108_82 ⟨⟨by omega, by omega⟩, ih _ _ M2 q2 (by omega) (by omega) (by omega)⟩
              refine sg_108_34 ⟨fun _ => ⟨t4, t5, fun k0 => ?_, fun k0 => ?_⟩, fun q => absurd t1' q⟩
              · rw [t2]
                have hx := hv' e
                have hbx := hbe e
                rw [if_pos k0, if_pos k0] at hx hbx
                refine p_117 hg hbx hC1 b1 b2 hP.1 hP.2.1 hx ?_
                intro M2 q2
                have cc := c0 k0 e
                refine ⟨_, rfl, fun lt => ⟨⟨by omega, by omega⟩, sg_108_57 ⟨fun z => by omega, fun _ => nx _ M2 (z_q_tr q1 q2) (by rw [cc, if_pos lt])⟩⟩, fun ge => sg_108_57 ⟨fun z => by omega, fun _ => nx _ M2 (z_q_tr q1 q2) (by rw [cc, if_neg ge, Int.add_zero])⟩⟩
              · rw [t2]
                have hx := hv' e
                have hbx := hbe e
                rw [if_neg k0, if_neg k0] at hx hbx
                refine sg_108_57 ⟨fun k1 => ?_, fun z => by omega⟩
                rw [hC1.2.1, hC1.2.2.1]
                refine ⟨b1, b2, ⟨by omega, by omega⟩, b1, b2, ⟨by omega, by omega⟩, p_117 hg hbx hC1 b1 b2 hP.1 hP.2.1 hx ?_⟩
                intro M2 q2
                have cc := c1 k1 e
                exact ⟨_, rfl, fun lt => ⟨⟨by omega, by omega⟩, nx _ M2 (z_q_tr q1 q2) (by rw [cc, if_pos lt])⟩, fun ge => nx _ M2 (z_q_tr q1 q2) (by rw [cc, if_neg ge, Int.add_zero])⟩
          refine sc_108 ⟨fun z => by omega, fun _ => ⟨fun z => by omega, fun _ => ?_⟩⟩
          rw [e_113 hT]
          refine ⟨_, rfl, fun z => absurd hP (jm_B0.1 z), fun _ => p_0c hg hT c4 c5 hbo (fun _ M1 h34 f1 => ⟨_, rfl, fun z => absurd z (by decide), fun _ => ?_⟩) (fun z => absurd hc z)⟩
          refine p_54_U hg hc hbo (g_tb_fr f1 (by decide) hT) (by rw [f1 4 (by decide)]; exact c4) (by rw [f1 5 (by decide)]; exact c5) h34 (fun v hv => g_pt_bd hg hbo hc hv) hP.1 hP.2.1 ?_
          intro M2 _ f2 _ _ _
          rw [g_val_z, hN]
          exact ⟨_, rfl, L (g_el w h sl) [] rfl 0 none M2 (z_q_tr (z_q_fr f1 (by decide) (by decide) (by decide)) (z_q_fr f2 (by decide) (by decide) (by decide))) (by omega) (by show (0 : Int) ≤ ((0 : Nat) : Int); omega) (Int.zero_add _).symm⟩
        · intro M1 Q S1 _ hQ
          have hR1 := (z_X S1 0).2.2.1
          obtain ⟨hX, x4, x5, x6⟩ := id hR1
          have L : ∀ e, e ≤ 108 → 0 ≤ e → ∀ n (o7 : Option jm_V) M2, z_q (jm_st M1 67 0 0) M2 → 0 ≤ n → n ≤ e → g_sm cf (g_el w h sl) = n + g_sm cf (g_ls (fun e => g_E w h sl e) 108 e) → jm_run 207 (28, [some (jm_R 67), some (jm_I k), some (jm_I s), some (jm_I t), some (jm_I now), some (jm_I n), some (jm_I e), o7], [], M2) Q := by
            refine jm_dn ?_
            intro e he ih e0 n o7 M2 q2 n0 n1 hn
            by_cases q : e < 108
            · have ih := ih q (by omega)
              have hR2 := z_R_eq q2.1 hR1
              have hb := hz.1.2.1 e
              dsimp only at hb
              refine sg_207_28 ⟨fun _ => ?_, fun z => absurd q z⟩
              rw [r_124 hg.1 hR2.1]
              refine ⟨_, rfl, fun p => ⟨⟨by omega, by omega⟩, ih _ _ M2 q2 (by omega) (by omega) ?_⟩, fun p => ?_⟩
              · rw [g_ls_n (P := fun e => g_E w h sl e) q (jm_B0.1 p)] at hn
                exact hn
              · rw [g_ls_y (P := fun e => g_E w h sl e) q (jm_Bn.1 p)] at hn
                have hn : g_sm cf (g_el w h sl) = n + (cf e + g_sm cf (g_ls (fun e => g_E w h sl e) 108 (e + 1))) := hn
                have nx : ∀ x7 M3, z_q (jm_st M1 67 0 0) M3 → ∀ y, y = cf e → (y = 0 ∨ y = 1) → jm_run 207 (79, [some (jm_R 67), some (jm_I k), some (jm_I s), some (jm_I t), some (jm_I now), some (jm_I n), some (jm_I e), some (jm_I x7)], [jm_I y, jm_I n], M3) Q := fun x7 M3 q3 y hy hy2 => sg_207_79 ⟨⟨by omega, by omega⟩, ⟨by omega, by omega⟩, ih _ _ M3 q3 (by omega) (by omega) (by omega)⟩
                have hx := hv' e
                have hbx := hbe e
                refine ⟨fun k0 => ?_, fun k0 => ?_⟩
                · rw [if_pos k0, if_pos k0] at hx hbx
                  refine p_205 hg hbx hR2 e0 q hP.1 hP.2.1 hP.2.2 hx ?_
                  intro M3 q3
                  have cc := c0 k0 e
                  exact ⟨_, rfl, sg_207_62 ⟨fun _ => ⟨fun lt => nx _ M3 (z_q_tr q2 q3) 1 (by rw [cc, if_pos lt]) (Or.inr rfl), fun ge => nx _ M3 (z_q_tr q2 q3) 0 (by rw [cc, if_neg ge]) (Or.inl rfl)⟩, fun z => absurd k0 z⟩⟩
                · rw [if_neg k0, if_neg k0] at hx hbx
                  rw [hR2.2.1, hR2.2.2.1]
                  refine ⟨e0, q, ⟨by omega, by omega⟩, e0, q, ⟨by omega, by omega⟩, p_205 hg hbx hR2 e0 q hP.1 hP.2.1 hP.2.2 hx ?_⟩
                  intro M3 q3
                  have cc := c1 (by omega) e
                  exact ⟨_, rfl, sg_207_62 ⟨fun z => absurd z k0, fun _ => ⟨fun lt => nx _ M3 (z_q_tr q2 q3) 1 (by rw [cc, if_pos lt]) (Or.inr rfl), fun ge => nx _ M3 (z_q_tr q2 q3) 0 (by rw [cc, if_neg ge]) (Or.inl rfl)⟩⟩⟩
            · rw [g_ls_z (by omega)] at hn
              have hn : g_sm cf (g_el w h sl) = n + 0 := hn
              rw [hn, Int.add_zero] at hQ
              exact sg_207_28 ⟨fun z => absurd z q, fun _ => hQ M2 (z_q_tr (z_q_0 M1 0) q2)⟩
          refine sc_207 ?_
          rw [e_119]
          refine ⟨_, rfl, fun z => absurd hk (jm_B0.1 z), fun _ => ?_⟩
          rw [r_181 hg.1 hX]
          refine ⟨_, rfl, fun z => absurd hP (jm_B0.1 z), fun _ => p_182 hg hbo hX x4 x5 hP.1 hP.2.1 hP.2.2 (fun _ M2 _ f2 => ?_) (fun z => absurd hc z)⟩
          rw [hN]
          exact ⟨_, rfl, fun z => by omega, fun _ => L 0 (by omega) (by omega) 0 none M2 (z_q_fx f2 (by decide) (by decide) (by decide)) (by omega) (by omega) (Int.zero_add _).symm⟩
      · refine z_mk hS (-2) ?_ ?_
        · intro Q hQ
          refine sc_108 ⟨fun z => by omega, fun _ => ⟨fun z => by omega, fun _ => ?_⟩⟩
          rw [e_113 hT]
          exact ⟨_, rfl, fun z => absurd hP (jm_B0.1 z), fun _ => p_0c hg hT c4 c5 hbo (fun z => absurd z hc) (fun _ _ _ M1 _ _ f1 _ => ⟨_, rfl, fun _ => hQ M1 (z_q_fr f1 (by decide) (by decide) (by decide)), fun z => absurd rfl z⟩)⟩
        · intro M1 Q S1 _ hQ
          obtain ⟨-, -, ⟨hX, x4, x5, x6⟩, -⟩ := z_X S1 0
          refine sc_207 ?_
          rw [e_119]
          refine ⟨_, rfl, fun z => absurd hk (jm_B0.1 z), fun _ => ?_⟩
          rw [r_181 hg.1 hX]
          exact ⟨_, rfl, fun z => absurd hP (jm_B0.1 z), fun _ => p_182 hg hbo hX x4 x5 hP.1 hP.2.1 hP.2.2 (fun z => absurd z hc) (fun _ M2 f2 => ⟨_, rfl, fun _ => hQ M2 (z_q_tr (z_q_0 M1 0) (z_q_fx f2 (by decide) (by decide) (by decide))), fun z => absurd (by decide) z⟩)⟩
    · refine z_mk hS (-1) ?_ ?_
      · intro Q hQ
        refine sc_108 ⟨fun z => by omega, fun _ => ⟨fun z => by omega, fun _ => ?_⟩⟩
        rw [e_113 hT]
        exact ⟨_, rfl, fun _ => hQ M (z_q_rfl M), fun z => absurd (jm_Bn.1 z) hP⟩
      · intro M1 Q S1 _ hQ
        obtain ⟨-, -, ⟨hX, x4, x5, x6⟩, -⟩ := z_X S1 0
        refine sc_207 ?_
        rw [e_119]
        refine ⟨_, rfl, fun z => absurd hk (jm_B0.1 z), fun _ => ?_⟩
        rw [r_181 hg.1 hX]
        exact ⟨_, rfl, fun _ => hQ _ (z_q_0 M1 0), fun z => absurd (jm_Bn.1 z) hP⟩
  · refine z_mk hS (-1) ?_ ?_
    · intro Q hQ
      exact sc_108 ⟨fun _ => hQ M (z_q_rfl M), fun _ => ⟨fun _ => hQ M (z_q_rfl M), fun _ => by omega⟩⟩
    · intro M1 Q S1 _ hQ
      refine sc_207 ?_
      rw [e_119]
      exact ⟨_, rfl, fun _ => hQ _ (z_q_0 M1 0), fun z => absurd (jm_Bn.1 z) hk⟩
/-- the worst so far, over the nodes -/
def z_wf (v : Int → Int) (s : Int) : Nat → Int → Int × Int → Int × Int
  | 0, _, a => a
  | k + 1, t, a => z_wf v s k (t + 1) (if t = s then a else if v t < a.2 then (t, v t) else a)
theorem z_wf_eq {v : Int → Int} {s : Int} (hv : ∀ t, v t < 1000000) : ∀ (k : Nat) (t : Int), (∃ u, t ≤ u ∧ u < t + (k : Int) ∧ u ≠ s) → z_wf v s k t (-1, 1000000) = z_wf v s k t (-1, 100000000)
  | 0, t, hu => by obtain ⟨u, u1, u2, u3⟩ := hu; omega
  | k + 1, t, hu => by
    unfold z_wf
    by_cases q : t = s
    · rw [if_pos q, if_pos q]
      obtain ⟨u, u1, u2, u3⟩ := hu
      exact z_wf_eq hv k (t + 1) ⟨u, by omega, by omega, u3⟩
    · have := hv t
      rw [if_neg q, if_neg q, if_pos (show v t < 1000000 by omega), if_pos (show v t < 100000000 by omega)]
theorem z_wf_b {v : Int → Int} {s : Int} (hv : ∀ t, 0 ≤ v t) : ∀ (k : Nat) (t : Int) (a : Int × Int), 0 ≤ a.2 → 0 ≤ (z_wf v s k t a).2
  | 0, t, a, ha => ha
  | k + 1, t, a, ha => by
    unfold z_wf
    apply z_wf_b hv k
    split
    · exact ha
    · split
      · exact hv t
      · exact ha
theorem z_worst (hS : z_S w h sl fo ba su M) (s k : Int) : z_stp 109 [jm_I s, jm_I k] 208 M := by
  obtain ⟨hz, hC, -⟩ := id hS
  obtain ⟨hT, c4, c5, c6⟩ := id hC
  have hg : g_ok w h sl := hz.1.1
  have hbo := z_bo hz
  have hm := g_mul hg.1
  by_cases hN : g_nd w h s
  · by_cases hk : 0 ≤ k ∧ k ≤ 1
    · by_cases hc : g_circ w h sl fo ba
      · have hv := fun t => g_val_lt hg hbo hc hN t
        generalize hvv : (fun t => g_val w h sl fo ba s t) = v
        have ve : ∀ t, g_val w h sl fo ba s t = v t := fun t => by rw [← hvv]
        have v0 : ∀ t, 0 ≤ v t := fun t => by rw [← ve]; exact (hv t).1
        have v1 : ∀ t, v t < 1000000 := fun t => by rw [← ve]; exact (hv t).2
        have ex : ∃ u, (0 : Int) ≤ u ∧ u < 0 + ((w * h).toNat : Int) ∧ u ≠ s := by
          by_cases q : s = 0
          · exact ⟨1, by omega, by omega, by omega⟩
          · exact ⟨0, by omega, by omega, fun z => q z.symm⟩
        have eqw := z_wf_eq (s := s) v1 (w * h).toNat 0 ex
        have rb := z_wf_b (s := s) v0 (w * h).toNat 0 (-1, 100000000) (by show (0 : Int) ≤ 100000000; decide)
        generalize hA : z_wf v s (w * h).toNat 0 (-1, 100000000) = A at *
        refine z_mk hS (if k = 0 then A.1 else A.2) ?_ ?_
        · intro Q hQ
          have L : ∀ (r : Nat) (t : Int) (a : Int × Int) (o6 : Option jm_V) (M1 : jm_Mem), w * h - t = (r : Int) → 0 ≤ t → z_wf v s r t a = A → jm_fr [52, 53, 54, 55, 56, 57, 58, 59, 60, 61, 33, 34, 35] M M1 → (∀ v, g_F w h sl v → M1 34 v = g_pt w h sl fo ba v) → jm_run 109 (26, [some (jm_R 0), some (jm_I s), some (jm_I k), some (jm_I a.1), some (jm_I a.2), some (jm_I t), o6], [], M1) Q := by
            intro r
            induction r with
            | zero =>
              intro t a o6 M1 hr t0 ha f1 h34
              have nc := t_nc (g_tb_fr f1 (by decide) hT)
              have hQ := hQ M1 (z_q_fr f1 (by decide) (by decide) (by decide))
              have ha : a = A := ha
              refine sg_109_26 ⟨fun z => by omega, fun _ => ⟨fun k0 => ?_, fun k0 => ?_⟩⟩
              · rw [if_pos k0] at hQ; rw [ha]; exact hQ
              · rw [if_neg k0] at hQ; rw [ha]; exact hQ
            | succ r ih =>
              intro t a o6 M1 hr t0 ha f1 h34
              have hT1 := g_tb_fr f1 (by decide) hT
              have nc := t_nc hT1
              have ha : z_wf v s r (t + 1) (if t = s then a else if v t < a.2 then (t, v t) else a) = A := ha
              refine sg_109_26 ⟨fun _ => ⟨fun ts => ⟨⟨by omega, by omega⟩, ?_⟩, fun ts => ?_⟩, fun z => by omega⟩
              · rw [if_pos ts] at ha
                exact ih (t + 1) a o6 M1 (by omega) (by omega) ha f1 h34
              · rw [if_neg ts] at ha
                refine p_54_U hg hc hbo hT1 (by rw [f1 4 (by decide)]; exact c4) (by rw [f1 5 (by decide)]; exact c5) h34 (fun v hv => g_pt_bd hg hbo hc hv) hN ⟨t0, by omega⟩ ?_
                intro M2 _ f2 _ _ _
                rw [g_val_z, ve]
                have f2' : jm_fr [52, 53, 54, 55, 56, 57, 58, 59, 60, 61, 33, 34, 35] M M2 := jm_fr_tr f1 (jm_fr_mo f2 (by decide))
                have h34' : ∀ v, g_F w h sl v → M2 34 v = g_pt w h sl fo ba v := fun v hv => by rw [f2 34 (by decide)]; exact h34 v hv
                refine ⟨_, rfl, fun lt => ⟨⟨by omega, by omega⟩, ?_⟩, fun ge => ⟨⟨by omega, by omega⟩, ?_⟩⟩
                · rw [if_pos lt] at ha
                  exact ih (t + 1) (t, v t) _ M2 (by omega) (by omega) ha f2' h34'
                · rw [if_neg ge] at ha
                  exact ih (t + 1) a _ M2 (by omega) (by omega) ha f2' h34'
          refine sc_109 ?_
          rw [e_19 hT]
          refine ⟨_, rfl, fun z => absurd hN (jm_B0.1 z), fun _ => ⟨fun z => by omega, fun _ => ⟨fun z => by omega, fun _ => p_0c hg hT c4 c5 hbo (fun _ M1 h34 f1 => ⟨_, rfl, fun z => absurd z (by decide), fun _ => L (w * h).toNat 0 (-1, 1000000) none M1 (by omega) (by omega) eqw (jm_fr_mo f1 (by decide)) h34⟩) (fun z => absurd hc z)⟩⟩⟩
        · intro M1 Q S1 _ hQ
          have hR1 := (z_X S1 0).2.2.1
          have L : ∀ (r : Nat) (t : Int) (a : Int × Int) (o6 : Option jm_V) (M2 : jm_Mem), w * h - t = (r : Int) → 0 ≤ t → z_wf v s r t a = A → z_q (jm_st M1 67 0 0) M2 → jm_run 208 (20, [some (jm_R 67), some (jm_I s), some (jm_I k), some (jm_I a.2), some (jm_I a.1), some (jm_I t), o6], [], M2) Q := by
            intro r
            induction r with
            | zero =>
              intro t a o6 M2 hr t0 ha q2
              have hR2 := z_R_eq q2.1 hR1
              have hQ := hQ M2 (z_q_tr (z_q_0 M1 0) q2)
              have ha : a = A := ha
              refine sg_208_20 ?_
              rw [r_121 hg.1 hR2.1]
              refine ⟨_, rfl, fun z => by omega, fun _ => ⟨fun z => ?_, fun _ => ⟨fun k0 => ?_, fun k0 => ?_⟩⟩⟩
              · rw [ha] at z; omega
              · rw [if_pos k0] at hQ; rw [ha]; exact hQ
              · rw [if_neg k0] at hQ; rw [ha]; exact hQ
            | succ r ih =>
              intro t a o6 M2 hr t0 ha q2
              have hR2 := z_R_eq q2.1 hR1
              have ha : z_wf v s r (t + 1) (if t = s then a else if v t < a.2 then (t, v t) else a) = A := ha
              refine sg_208_20 ?_
              rw [r_121 hg.1 hR2.1]
              refine ⟨_, rfl, fun _ => ⟨fun ts => ⟨⟨by omega, by omega⟩, ?_⟩, fun ts => ?_⟩, fun z => by omega⟩
              · rw [if_pos ts] at ha
                exact ih (t + 1) a o6 M2 (by omega) (by omega) ha q2
              · rw [if_neg ts] at ha
                refine p_182 hg hbo hR2.1 hR2.2.1 hR2.2.2.1 hN ⟨t0, by omega⟩ (fun z => ts z.symm) (fun _ M3 _ f3 => ?_) (fun z => absurd hc z)
                rw [ve]
                have q3 : z_q (jm_st M1 67 0 0) M3 := z_q_tr q2 (z_q_fx f3 (by decide) (by decide) (by decide))
                refine ⟨_, rfl, fun lt => ⟨fun _ => ⟨⟨by omega, by omega⟩, ?_⟩, fun z => absurd lt z⟩, fun ge => ⟨fun z => absurd z ge, fun _ => ⟨⟨by omega, by omega⟩, ?_⟩⟩⟩
                · rw [if_pos lt] at ha
                  exact ih (t + 1) (t, v t) _ M3 (by omega) (by omega) ha q3
                · rw [if_neg ge] at ha
                  exact ih (t + 1) a _ M3 (by omega) (by omega) ha q3
          refine sc_208 ?_
          rw [r_122 hg.1 hR1.1]
          refine ⟨_, rfl, fun z => absurd hN (jm_B0.1 z), fun _ => ?_⟩
          rw [e_119]
          exact ⟨_, rfl, fun z => absurd hk (jm_B0.1 z), fun _ => L (w * h).toNat 0 (-1, 100000000) none _ (by omega) (by omega) hA (z_q_rfl _)⟩
      · refine z_mk hS (-2) ?_ ?_
        · intro Q hQ
          refine sc_109 ?_
          rw [e_19 hT]
          exact ⟨_, rfl, fun z => absurd hN (jm_B0.1 z), fun _ => ⟨fun z => by omega, fun _ => ⟨fun z => by omega, fun _ => p_0c hg hT c4 c5 hbo (fun z => absurd z hc) (fun _ _ _ M1 _ _ f1 _ => ⟨_, rfl, fun _ => hQ M1 (z_q_fr f1 (by decide) (by decide) (by decide)), fun z => absurd rfl z⟩)⟩⟩⟩
        · intro M1 Q S1 _ hQ
          have hR1 := (z_X S1 0).2.2.1
          have L : ∀ (r : Nat) (t nd le : Int) (o6 : Option jm_V) (M2 : jm_Mem), w * h - t = (r : Int) → 0 ≤ t → (le = -2 ∨ (le = 100000000 ∧ ∃ u, t ≤ u ∧ u < w * h ∧ u ≠ s)) → z_q (jm_st M1 67 0 0) M2 → jm_run 208 (20, [some (jm_R 67), some (jm_I s), some (jm_I k), some (jm_I le), some (jm_I nd), some (jm_I t), o6], [], M2) Q := by
            intro r
            induction r with
            | zero =>
              intro t nd le o6 M2 hr t0 hle q2
              have hR2 := z_R_eq q2.1 hR1
              have hQ := hQ M2 (z_q_tr (z_q_0 M1 0) q2)
              have hle : le = -2 := by
                rcases hle with hle | ⟨_, u, u1, u2, u3⟩
                · exact hle
                · omega
              refine sg_208_20 ?_
              rw [r_121 hg.1 hR2.1]
              refine ⟨_, rfl, fun z => by omega, fun _ => ⟨fun z => ?_, fun z => by omega⟩⟩
              rw [hle]; exact hQ
            | succ r ih =>
              intro t nd le o6 M2 hr t0 hle q2
              have hR2 := z_R_eq q2.1 hR1
              refine sg_208_20 ?_
              rw [r_121 hg.1 hR2.1]
              refine ⟨_, rfl, fun _ => ⟨fun ts => ⟨⟨by omega, by omega⟩, ?_⟩, fun ts => ?_⟩, fun z => by omega⟩
              · refine ih (t + 1) nd le o6 M2 (by omega) (by omega) ?_ q2
                rcases hle with hle | ⟨hle, u, u1, u2, u3⟩
                · exact Or.inl hle
                · exact Or.inr ⟨hle, u, by omega, u2, u3⟩
              · refine p_182 hg hbo hR2.1 hR2.2.1 hR2.2.2.1 hN ⟨t0, by omega⟩ (fun z => ts z.symm) (fun z => absurd z hc) (fun _ M3 f3 => ?_)
                have q3 : z_q (jm_st M1 67 0 0) M3 := z_q_tr q2 (z_q_fx f3 (by decide) (by decide) (by decide))
                refine ⟨_, rfl, fun lt => ⟨fun _ => ⟨⟨by omega, by omega⟩, ih (t + 1) _ _ _ M3 (by omega) (by omega) (Or.inl rfl) q3⟩, fun z => absurd lt z⟩, fun ge => ⟨fun z => absurd z ge, fun _ => ⟨⟨by omega, by omega⟩, ih (t + 1) _ _ _ M3 (by omega) (by omega) ?_ q3⟩⟩⟩
                rcases hle with hle | ⟨hle, -⟩
                · exact Or.inl hle
                · omega
          refine sc_208 ?_
          rw [r_122 hg.1 hR1.1]
          refine ⟨_, rfl, fun z => absurd hN (jm_B0.1 z), fun _ => ?_⟩
          rw [e_119]
          refine ⟨_, rfl, fun z => absurd hk (jm_B0.1 z), fun _ => L (w * h).toNat 0 (-1) 100000000 none _ (by omega) (by omega) (Or.inr ⟨rfl, ?_⟩) (z_q_rfl _)⟩
          by_cases q : s = 0
          · exact ⟨1, by omega, by omega, by omega⟩
          · exact ⟨0, by omega, by omega, fun z => q z.symm⟩
    · refine z_mk hS (-1) ?_ ?_
      · intro Q hQ
        refine sc_109 ?_
        rw [e_19 hT]
        exact ⟨_, rfl, fun z => absurd hN (jm_B0.1 z), fun _ => ⟨fun _ => hQ M (z_q_rfl M), fun _ => ⟨fun _ => hQ M (z_q_rfl M), fun _ => by omega⟩⟩⟩
      · intro M1 Q S1 _ hQ
        obtain ⟨-, -, ⟨hX, x4, x5, x6⟩, -⟩ := z_X S1 0
        refine sc_208 ?_
        rw [r_122 hg.1 hX]
        refine ⟨_, rfl, fun z => absurd hN (jm_B0.1 z), fun _ => ?_⟩
        rw [e_119]
        exact ⟨_, rfl, fun _ => hQ _ (z_q_0 M1 0), fun z => absurd (jm_Bn.1 z) hk⟩
  · refine z_mk hS (-1) ?_ ?_
    · intro Q hQ
      refine sc_109 ?_
      rw [e_19 hT]
      exact ⟨_, rfl, fun _ => hQ M (z_q_rfl M), fun z => absurd (jm_Bn.1 z) hN⟩
    · intro M1 Q S1 _ hQ
      obtain ⟨-, -, ⟨hX, x4, x5, x6⟩, -⟩ := z_X S1 0
      refine sc_208 ?_
      rw [r_122 hg.1 hX]
      exact ⟨_, rfl, fun _ => hQ _ (z_q_0 M1 0), fun z => absurd (jm_Bn.1 z) hN⟩
end Z6
