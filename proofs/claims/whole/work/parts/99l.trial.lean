/-! trials -/
section Z5
variable {w h : Int} {sl fo ba su : Int → Int} {M : jm_Mem}
theorem k_po_ph {s : Int} (hg : g_ok w h sl) (hbo : g_bo fo ba) (hs : g_nd w h s) : ∀ (n : Nat) (rest K : Int) (σ : k_S), rest = (n : Int) → k_iv w h sl fo ba K σ → rest - (k_po w h sl fo ba s rest σ).1 ≤ k_ph w h sl fo ba s σ.1 := by
  intro n
  induction n using Nat.strongRecOn with
  | ind n ih =>
    intro rest K σ hn hiv
    have hph := k_ph_b (s := s) hg hbo hiv.1
    have stop : k_po w h sl fo ba s rest σ = (rest, σ) → rest - (k_po w h sl fo ba s rest σ).1 ≤ k_ph w h sl fo ba s σ.1 := by
      intro q
      rw [q]
      show rest - rest ≤ _
      omega
    by_cases hr : 0 < rest
    · cases hw : k_way w h sl fo ba σ.1 σ.2.1 s with
      | none => exact stop (k_po_n hw)
      | some st =>
        have hb := k_by_b hg hs hiv.1 hr hw
        obtain ⟨f0, l, se', r1, r2, r3, r4, r5, r6, r7, r8, r9, r10, r11, r12⟩ := k_found hg hs hiv.1 hw
        rw [k_po_s hg hs hiv hr hw]
        have i1 := ih (rest - k_by sl fo ba st rest σ).toNat (by omega) (rest - k_by sl fo ba st rest σ) (K + k_by sl fo ba st rest σ) _ (by omega) (k_iv_pu hg hs hiv hr hw)
        have e2 : (k_pu sl s st (k_by sl fo ba st rest σ) σ).1 = k_ps sl (k_by sl fo ba st rest σ) (k_ws s l) σ.1 := by
          unfold k_pu
          rw [r3]
        rw [e2, k_ph_ps hg r4 r5 r11] at i1
        omega
    · exact stop (k_po_0 hr)
theorem g_val_lt (hg : g_ok w h sl) (hbo : g_bo fo ba) (hc : g_circ w h sl fo ba) {s : Int} (hs : g_nd w h s) (t : Int) : 0 ≤ g_val w h sl fo ba s t ∧ g_val w h sl fo ba s t < 1000000 := by
  have h1 := g_val_b (t := t) hg hc hs
  have hiv := k_s0_iv (fo := fo) (ba := ba) hg hc (k_t_wt (t := t))
  have h2 := k_po_ph hg hbo hs 1000000 1000000 0 _ rfl hiv
  have h3 := k_ph_b (s := s) hg hbo hiv.1
  unfold g_val at h1 ⊢
  omega
theorem z_bo_up (hz : z_g w h sl fo ba su) {e a b : Int} (ha : -100 ≤ a ∧ a ≤ 100) (hb : -100 ≤ b ∧ b ≤ 100) (hab : 0 ≤ a + b) : g_bo (jm_up fo e a) (jm_up ba e b) := by
  intro i
  have := z_bo hz i
  by_cases q : i = e
  · rw [q, jm_up_s, jm_up_s]; omega
  · rw [jm_up_o q, jm_up_o q]; exact this
theorem z_up_up {f : Int → Int} {e a : Int} : jm_up (jm_up f e a) e (f e) = f := by
  funext i
  by_cases q : i = e
  · rw [q, jm_up_s]
  · rw [jm_up_o q, jm_up_o q]
/-- both ways to try an edge answer this -/
def z_vr (w h : Int) (sl fo ba : Int → Int) (e a b s t x : Int) : Prop := (g_circ w h sl (jm_up fo e a) (jm_up ba e b) → x = g_val w h sl (jm_up fo e a) (jm_up ba e b) s t) ∧ (¬ g_circ w h sl (jm_up fo e a) (jm_up ba e b) → x = -2)
theorem z_vr_ex (e a b s t : Int) : ∃ x, z_vr w h sl fo ba e a b s t x := by
  by_cases hc : g_circ w h sl (jm_up fo e a) (jm_up ba e b)
  · exact ⟨_, fun _ => rfl, fun z => absurd hc z⟩
  · exact ⟨_, fun z => absurd z hc, fun _ => rfl⟩
theorem p_117 {e a b s t x : Int} {Q : jm_Q} (hg : g_ok w h sl) (hbo : g_bo (jm_up fo e a) (jm_up ba e b)) (hC : z_C w h sl fo ba su M) (e0 : 0 ≤ e) (e1 : e < 108) (hs : g_nd w h s) (ht : g_nd w h t) (hx : z_vr w h sl fo ba e a b s t x) (hQ : ∀ M', z_q M M' → Q (some (jm_I x)) M') : jm_cl 117 [jm_R 0, jm_I e, jm_I a, jm_I b, jm_I s, jm_I t] M Q := by
  obtain ⟨hT, c4, c5, c6⟩ := hC
  have f0 : jm_fr [4, 5] M (jm_st (jm_st M 4 e a) 5 e b) := jm_fr_tr (jm_fr_st (by decide)) (jm_fr_st (by decide))
  have hT1 : g_tb w h sl (jm_st (jm_st M 4 e a) 5 e b) := g_tb_fr f0 (by decide) hT
  have k4 : jm_st (jm_st M 4 e a) 5 e b 4 = jm_up fo e a := by
    show jm_up (M 4) e a = _
    rw [c4]
  have k5 : jm_st (jm_st M 4 e a) 5 e b 5 = jm_up ba e b := by
    show jm_up (M 5) e b = _
    rw [c5]
  have back : ∀ M4 : jm_Mem, jm_fr [33, 34, 35, 52, 53, 54, 55, 56, 57, 58, 59, 60, 61] (jm_st (jm_st M 4 e a) 5 e b) M4 → z_q M (jm_st (jm_st M4 4 e (M 4 e)) 5 e (M 5 e)) := by
    intro M4 f4
    have n4 : M4 4 = jm_up fo e a := by rw [f4 4 (by decide)]; exact k4
    have n5 : M4 5 = jm_up ba e b := by rw [f4 5 (by decide)]; exact k5
    refine ⟨⟨fun c hc => ?_, fun i _ => ?_⟩, ?_, ?_⟩
    · by_cases q5 : c = 5
      · subst q5
        show jm_up (M4 5) e (M 5 e) = M 5
        rw [n5, c5]; exact z_up_up
      · by_cases q4 : c = 4
        · subst q4
          show jm_up (M4 4) e (M 4 e) = M 4
          rw [n4, c4]; exact z_up_up
        · rw [jm_st_e, if_neg q5, jm_st_e, if_neg q4, f4 c (fun h => (show ∀ c ∈ [33, 34, 35, 52, 53, 54, 55, 56, 57, 58, 59, 60, 61], c ∉ z_rel by decide) c h hc), jm_st_e, if_neg q5, jm_st_e, if_neg q4]
    · show M4 67 i = M 67 i
      rw [f4 67 (by decide)]; rfl
    · show M4 999 = M 999
      rw [f4 999 (by decide)]; rfl
    · show M4 94 = M 94
      rw [f4 94 (by decide)]; rfl
  refine sc_117 ⟨e0, e1, e0, e1, sc_77_T ⟨e0, e1, e0, e1, rfl, p_0c hg hT1 k4 k5 hbo (fun hc M2 h34 f2 => ⟨_, rfl, fun z => absurd z (by decide), fun _ => ?_⟩) (fun hc _ _ M2 _ _ f2 _ => ⟨_, rfl, fun _ => sc_77_T ⟨e0, e1, e0, e1, rfl, ?_⟩, fun z => absurd rfl z⟩)⟩⟩
  · refine p_54_U hg hc hbo (g_tb_fr f2 (by decide) hT1) (by rw [f2 4 (by decide)]; exact k4) (by rw [f2 5 (by decide)]; exact k5) h34 (fun v hv => g_pt_bd hg hbo hc hv) hs ht ?_
    intro M3 _ f3 _ _ _
    refine ⟨_, rfl, sc_77_T ⟨e0, e1, e0, e1, rfl, ?_⟩⟩
    rw [show (1000000 - (k_po w h sl (jm_up fo e a) (jm_up ba e b) s 1000000 (k_s0 w h sl (jm_up fo e a) (jm_up ba e b) (jm_up (fun _ => 0) t 1000000))).1 : Int) = x from (hx.1 hc).symm]
    exact hQ _ (back M3 (jm_fr_tr (jm_fr_mo f2 (by decide)) (jm_fr_mo f3 (by decide))))
  · rw [← hx.2 hc]
    exact hQ _ (back M2 (jm_fr_mo f2 (by decide)))
theorem p_205 {e a b s t x : Int} {Q : jm_Q} (hg : g_ok w h sl) (hbo : g_bo (jm_up fo e a) (jm_up ba e b)) (hR : z_R w h sl fo ba su M) (e0 : 0 ≤ e) (e1 : e < 108) (hs : g_nd w h s) (ht : g_nd w h t) (hst : s ≠ t) (hx : z_vr w h sl fo ba e a b s t x) (hQ : ∀ M', z_q M M' → Q (some (jm_I x)) M') : jm_cl 205 [jm_R 67, jm_I e, jm_I a, jm_I b, jm_I s, jm_I t] M Q := by
  obtain ⟨hX, c4, c5, c6⟩ := hR
  have f0 : jm_fx [69, 70] [] M (jm_st (jm_st M 69 e a) 70 e b) := jm_fx_tr (jm_fx_st (by decide) (by decide)) (jm_fx_st (by decide) (by decide))
  have hX1 : r_X w h sl (jm_st (jm_st M 69 e a) 70 e b) := r_X_fx f0 (by decide) (by decide) (by decide) hX
  have k4 : jm_st (jm_st M 69 e a) 70 e b 69 = jm_up fo e a := by
    show jm_up (M 69) e a = _
    rw [c4]
  have k5 : jm_st (jm_st M 69 e a) 70 e b 70 = jm_up ba e b := by
    show jm_up (M 70) e b = _
    rw [c5]
  have back : ∀ M4 : jm_Mem, jm_fx [74, 75, 80, 85, 86, 87, 88, 89] [24, 34, 35, 36, 45] (jm_st (jm_st M 69 e a) 70 e b) M4 → z_q M (jm_st (jm_st M4 69 e (M 69 e)) 70 e (M 70 e)) := by
    intro M4 f4
    have n4 : M4 69 = jm_up fo e a := by rw [f4.1 69 (by decide) (by decide)]; exact k4
    have n5 : M4 70 = jm_up ba e b := by rw [f4.1 70 (by decide) (by decide)]; exact k5
    refine ⟨⟨fun c hc => ?_, fun i hi => ?_⟩, ?_, ?_⟩
    · by_cases q5 : c = 70
      · subst q5
        show jm_up (M4 70) e (M 70 e) = M 70
        rw [n5, c5]; exact z_up_up
      · by_cases q4 : c = 69
        · subst q4
          show jm_up (M4 69) e (M 69 e) = M 69
          rw [n4, c4]; exact z_up_up
        · rw [jm_st_e, if_neg q5, jm_st_e, if_neg q4, f4.1 c (fun h => (show ∀ c ∈ [74, 75, 80, 85, 86, 87, 88, 89], c ∉ z_rel by decide) c h hc) (fun h => by rw [h] at hc; revert hc; decide), jm_st_e, if_neg q5, jm_st_e, if_neg q4]
    · show M4 67 i = M 67 i
      rw [f4.2 i (fun h => (show ∀ i ∈ [24, 34, 35, 36, 45], i ∉ z_pl by decide) i h hi)]; rfl
    · show M4 999 = M 999
      rw [f4.1 999 (by decide) (by decide)]; rfl
    · show M4 94 = M 94
      rw [f4.1 94 (by decide) (by decide)]; rfl
  refine sc_205 ⟨e0, e1, e0, e1, e0, e1, e0, e1, p_182 hg hbo hX1 k4 k5 hs ht hst (fun hc M2 _ f2 => ⟨_, rfl, e0, e1, e0, e1, ?_⟩) (fun hc M2 f2 => ⟨_, rfl, e0, e1, e0, e1, ?_⟩)⟩
  · rw [← hx.1 hc]
    exact hQ _ (back M2 f2)
  · rw [← hx.2 hc]
    exact hQ _ (back M2 f2)
theorem z_were (hS : z_S w h sl fo ba su M) (e k s t : Int) : z_stp 107 [jm_I e, jm_I k, jm_I s, jm_I t] 206 M := by
  obtain ⟨hz, hC, -⟩ := id hS
  obtain ⟨hT, c4, c5, c6⟩ := id hC
  have hg : g_ok w h sl := hz.1.1
  by_cases hE : g_E w h sl e
  · obtain ⟨e0, e1, -, -⟩ := g_Eb hg.1 hE
    by_cases hk : 0 ≤ k ∧ k ≤ 2
    · by_cases hP : g_nd w h s ∧ g_nd w h t ∧ s ≠ t
      · have hb := hz.1.2.1 e
        dsimp only at hb
        generalize ha' : (if k = 0 then 0 else if k = 1 then fo e + 1 else fo e + 0) = a
        generalize hb' : (if k = 0 then 0 else if k = 2 then ba e + 1 else ba e + 0) = b
        have hbo : g_bo (jm_up fo e a) (jm_up ba e b) := by
          by_cases k0 : k = 0
          · rw [if_pos k0] at ha' hb'
            exact z_bo_up hz (by omega) (by omega) (by omega)
          · rw [if_neg k0] at ha' hb'
            by_cases k1 : k = 1
            · rw [if_pos k1] at ha'
              rw [if_neg (by omega)] at hb'
              exact z_bo_up hz (by omega) (by omega) (by omega)
            · rw [if_neg k1] at ha'
              by_cases k2 : k = 2
              · rw [if_pos k2] at hb'
                exact z_bo_up hz (by omega) (by omega) (by omega)
              · rw [if_neg k2] at hb'
                exact z_bo_up hz (by omega) (by omega) (by omega)
        obtain ⟨x, hx⟩ := z_vr_ex (w := w) (h := h) (sl := sl) (fo := fo) (ba := ba) e a b s t
        refine z_mk hS x ?_ ?_
        · intro Q hQ
          have go : jm_cl 117 [jm_R 0, jm_I e, jm_I a, jm_I b, jm_I s, jm_I t] M (fun r M3 => ∃ r3 : Int, r = some (jm_I r3) ∧ Q (some (jm_I r3)) M3) := p_117 hg hbo hC e0 e1 hP.1 hP.2.1 hx (fun M' q => ⟨_, rfl, hQ M' q⟩)
          refine sc_107 ?_
          rw [e_20 hg.1 hT]
          refine ⟨_, rfl, fun z => absurd hE (jm_B0.1 z), fun _ => ⟨fun z => by omega, fun _ => ⟨fun z => by omega, fun _ => ?_⟩⟩⟩
          rw [e_113 hT]
          refine ⟨_, rfl, fun z => absurd hP (jm_B0.1 z), fun _ => ⟨fun k0 => ?_, fun k0 => ⟨e0, e1, fun k1 => ⟨?_, e0, e1, fun k2 => by omega, fun k2 => ⟨?_, ?_⟩⟩, fun k1 => ⟨?_, e0, e1, fun k2 => ⟨?_, ?_⟩, fun k2 => by omega⟩⟩⟩⟩
          · rw [if_pos k0] at ha' hb'
            rw [ha', hb'] at *
            exact go
          · rw [c4]; exact ⟨by omega, by omega⟩
          · rw [c5]; exact ⟨by omega, by omega⟩
          · rw [if_neg k0, if_pos k1] at ha'
            rw [if_neg k0, if_neg k2] at hb'
            rw [c4, c5, ha', hb']
            exact go
          · rw [c4]; exact ⟨by omega, by omega⟩
          · rw [c5]; exact ⟨by omega, by omega⟩
          · rw [if_neg k0, if_neg k1] at ha'
            rw [if_neg k0, if_pos k2] at hb'
            rw [c4, c5, ha', hb']
            exact go
        · intro M1 Q S1 _ hQ
          have hR1 := (z_X S1 0).2.2.1
          obtain ⟨hX, x4, x5, x6⟩ := id hR1
          have go : jm_cl 205 [jm_R 67, jm_I e, jm_I a, jm_I b, jm_I s, jm_I t] (jm_st M1 67 0 0) (fun r M3 => ∃ r3 : Int, r = some (jm_I r3) ∧ Q (some (jm_I r3)) M3) := p_205 hg hbo hR1 e0 e1 hP.1 hP.2.1 hP.2.2 hx (fun M' q => ⟨_, rfl, hQ M' (z_q_tr (z_q_0 M1 0) q)⟩)
          refine sc_206 ?_
          rw [r_124 hg.1 hX]
          refine ⟨_, rfl, fun z => absurd hE (jm_B0.1 z), fun _ => ?_⟩
          rw [e_119]
          refine ⟨_, rfl, fun z => absurd hk (jm_B0.1 z), fun _ => ?_⟩
          rw [r_181 hg.1 hX]
          refine ⟨_, rfl, fun z => absurd hP (jm_B0.1 z), fun _ => ⟨fun k0 => ?_, fun k0 => ⟨e0, e1, fun k1 => ⟨?_, e0, e1, fun k2 => by omega, fun k2 => ⟨?_, ?_⟩⟩, fun k1 => ⟨?_, e0, e1, fun k2 => ⟨?_, ?_⟩, fun k2 => by omega⟩⟩⟩⟩
          · rw [if_pos k0] at ha' hb'
            rw [ha', hb'] at *
            exact go
          · rw [x4]; exact ⟨by omega, by omega⟩
          · rw [x5]; exact ⟨by omega, by omega⟩
          · rw [if_neg k0, if_pos k1] at ha'
            rw [if_neg k0, if_neg k2] at hb'
            rw [x4, x5, ha', hb']
            exact go
          · rw [x4]; exact ⟨by omega, by omega⟩
          · rw [x5]; exact ⟨by omega, by omega⟩
          · rw [if_neg k0, if_neg k1] at ha'
            rw [if_neg k0, if_pos k2] at hb'
            rw [x4, x5, ha', hb']
            exact go
      · refine z_mk hS (-1) ?_ ?_
        · intro Q hQ
          refine sc_107 ?_
          rw [e_20 hg.1 hT]
          refine ⟨_, rfl, fun z => absurd hE (jm_B0.1 z), fun _ => ⟨fun z => by omega, fun _ => ⟨fun z => by omega, fun _ => ?_⟩⟩⟩
          rw [e_113 hT]
          exact ⟨_, rfl, fun _ => hQ M (z_q_rfl M), fun z => absurd (jm_Bn.1 z) hP⟩
        · intro M1 Q S1 _ hQ
          obtain ⟨-, -, ⟨hX, x4, x5, x6⟩, -⟩ := z_X S1 0
          refine sc_206 ?_
          rw [r_124 hg.1 hX]
          refine ⟨_, rfl, fun z => absurd hE (jm_B0.1 z), fun _ => ?_⟩
          rw [e_119]
          refine ⟨_, rfl, fun z => absurd hk (jm_B0.1 z), fun _ => ?_⟩
          rw [r_181 hg.1 hX]
          exact ⟨_, rfl, fun _ => hQ _ (z_q_0 M1 0), fun z => absurd (jm_Bn.1 z) hP⟩
    · refine z_mk hS (-1) ?_ ?_
      · intro Q hQ
        refine sc_107 ?_
        rw [e_20 hg.1 hT]
        exact ⟨_, rfl, fun z => absurd hE (jm_B0.1 z), fun _ => ⟨fun _ => hQ M (z_q_rfl M), fun _ => ⟨fun _ => hQ M (z_q_rfl M), fun _ => by omega⟩⟩⟩
      · intro M1 Q S1 _ hQ
        obtain ⟨-, -, ⟨hX, x4, x5, x6⟩, -⟩ := z_X S1 0
        refine sc_206 ?_
        rw [r_124 hg.1 hX]
        refine ⟨_, rfl, fun z => absurd hE (jm_B0.1 z), fun _ => ?_⟩
        rw [e_119]
        exact ⟨_, rfl, fun _ => hQ _ (z_q_0 M1 0), fun z => absurd (jm_Bn.1 z) hk⟩
  · refine z_mk hS (-1) ?_ ?_
    · intro Q hQ
      refine sc_107 ?_
      rw [e_20 hg.1 hT]
      exact ⟨_, rfl, fun _ => hQ M (z_q_rfl M), fun z => absurd (jm_Bn.1 z) hE⟩
    · intro M1 Q S1 _ hQ
      obtain ⟨-, -, ⟨hX, x4, x5, x6⟩, -⟩ := z_X S1 0
      refine sc_206 ?_
      rw [r_124 hg.1 hX]
      exact ⟨_, rfl, fun _ => hQ _ (z_q_0 M1 0), fun z => absurd (jm_Bn.1 z) hE⟩
end Z5
