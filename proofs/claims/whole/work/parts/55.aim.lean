/-! THE CLASS: keys to a face -/
def b_ke (o : Option Int) : Int := match o with
  | none => 2147483647
  | some b => 4096 * (b / 65536) + b % 65536
def k_rp (s : b_S) (M : jm_Mem) : Prop := ∀ v, 0 ≤ v → v < 73 → M 38 v = b_ke (s.1 v)
theorem e_43 {M : jm_Mem} {f W : Int} (f0 : 0 ≤ f) (f1 : f < 73) (hW : -100 ≤ W ∧ W ≤ 100) (hb : -100000000 ≤ M 38 f ∧ M 38 f ≤ 100000000) (Q : jm_Q) : jm_cl 43 [jm_R 37, jm_I f, jm_I W] M Q ↔ Q (some (jm_I (M 38 f + W * 4096 + 1))) M := by
  refine jm_cl_e (fun Q h => sc_43 ?_) Q
  exact ⟨f0, f1, ⟨by omega, by omega⟩, ⟨by omega, by omega⟩, ⟨by omega, by omega⟩, h⟩
theorem p_42 {s : b_S} {M : jm_Mem} {f g W e : Int} {Q : jm_Q} (f0 : 0 ≤ f) (f1 : f < 73) (g0 : 0 ≤ g) (g1 : g < 73) (hW : -100 ≤ W ∧ W ≤ 100) (hb : k_bd s) (hR : k_rp s M) (hQ : ∀ M', k_rp (b_t s (f, g, 65536 * W + 1, e)) M' → jm_fr [38] M M' → Q (some (jm_I (jm_B (b_ok s.1 f g (65536 * W + 1) = true)))) M') : jm_cl 42 [jm_R 37, jm_I g, jm_I f, jm_I W] M Q := by
  have rf := hR f f0 f1
  have rg := hR g g0 g1
  refine sc_42 ⟨f0, f1, fun a => ⟨by omega, by omega, ?_⟩, fun a => ?_⟩
  · have hk : b_ok s.1 f g (65536 * W + 1) = false := by
      unfold b_ok
      cases hf : s.1 f with
      | none => rfl
      | some b =>
        rw [hf] at rf
        have rf : M 38 f = 4096 * (b / 65536) + b % 65536 := rf
        have := hb f b hf
        omega
    rw [jm_Bf (by rw [hk]; simp), b_t_f (x := (f, g, 65536 * W + 1, e)) hk] at hQ
    exact hQ M hR (jm_fr_rfl _ _)
  · cases hf : s.1 f with
    | none => rw [hf] at rf; exact absurd rf a
    | some b =>
      rw [hf] at rf
      have rf : M 38 f = 4096 * (b / 65536) + b % 65536 := rf
      have hbb := hb f b hf
      have hbd : -100000000 ≤ M 38 f ∧ M 38 f ≤ 100000000 := by omega
      rw [e_43 f0 f1 hW hbd]
      have hiff : (M 38 f + W * 4096 + 1 < M 38 g) ↔ b_ok s.1 f g (65536 * W + 1) = true := by
        unfold b_ok
        rw [hf]
        cases hg : s.1 g with
        | none =>
          rw [hg] at rg
          have rg : M 38 g = 2147483647 := rg
          simp only [iff_true]
          omega
        | some c =>
          rw [hg] at rg
          have rg : M 38 g = 4096 * (c / 65536) + c % 65536 := rg
          have hbc := hb g c hg
          simp only [decide_eq_true_eq]
          omega
      refine ⟨_, rfl, g0, g1, fun d => ?_, fun d => ⟨by omega, by omega, ?_⟩⟩
      · rw [hiff] at d
        rw [e_43 f0 f1 hW hbd]
        refine ⟨_, rfl, g0, g1, by omega, by omega, ?_⟩
        rw [jm_Bt d, b_t_t (x := (f, g, 65536 * W + 1, e)) d] at hQ
        refine hQ _ ?_ (jm_fr_st (by decide))
        intro v v0 v1
        simp only [jm_st_e, reduceIte]
        by_cases q : v = g
        · obtain ⟨x, hx, hnw, -⟩ := b_ok_t d
          rw [q, jm_up_s, b_pt_s, hnw]
          rw [hf] at hx
          injection hx with hx
          show M 38 f + W * 4096 + 1 = 4096 * ((x + (65536 * W + 1)) / 65536) + (x + (65536 * W + 1)) % 65536
          omega
        · rw [jm_up_o q, b_pt_o q]
          exact hR v v0 v1
      · rw [hiff, Bool.not_eq_true] at d
        rw [jm_Bf (by rw [d]; simp), b_t_f (x := (f, g, 65536 * W + 1, e)) d] at hQ
        exact hQ M hR (jm_fr_rfl _ _)
section A1
variable {w h : Int} {sl fo ba : Int → Int}
theorem p_41 {M : jm_Mem} {Q : jm_Q} {to : Int} {k : Nat} {s : b_S} (hg : g_ok w h sl) (hbo : g_bo fo ba) (hc : g_circ w h sl fo ba) (hT : g_tb w h sl M) (hfo : M 4 = fo) (hba : M 5 = ba) (hJ : b_J ((g_bw w h sl fo ba).map b_K) to k [] s) (hin : b_in (g_fs w h sl) s) (hH : b_H s) (hR : k_rp s M) (hQ : ∀ M', k_rp (b_r ((g_bw w h sl fo ba).map b_K) s) M' → jm_fr [38] M M' → Q (some (jm_I (jm_B (b_fl ((g_bw w h sl fo ba).map b_K) s = true)))) M') : jm_cl 41 [jm_R 37, jm_R 1] M Q := by
  obtain ⟨π, hπ⟩ := g_circ_bw hg hc
  have hπK := b_potK hπ
  have hN := g_fs_len (w := w) (h := h) (sl := sl)
  have L : ∀ (rest pre : List Int), pre ++ rest = g_el w h sl → ∀ (o4 : Option jm_V) (s1 : b_S) (M1 : jm_Mem) (fl : Bool) (pa : List b_A), jm_fr [38] M M1 → k_rp s1 M1 → b_in (g_fs w h sl) s1 → b_H s1 → pa ++ (b_ar (g_rt w h sl) (g_lf w h sl) fo ba rest).map b_K = (g_bw w h sl fo ba).map b_K → b_J ((g_bw w h sl fo ba).map b_K) to k pa s1 → b_r ((g_bw w h sl fo ba).map b_K) s = b_r ((b_ar (g_rt w h sl) (g_lf w h sl) fo ba rest).map b_K) s1 → b_fl ((g_bw w h sl fo ba).map b_K) s = (fl || b_fl ((b_ar (g_rt w h sl) (g_lf w h sl) fo ba rest).map b_K) s1) → jm_run 41 (4, [some (jm_R 37), some (jm_R 1), some (jm_I (jm_B (fl = true))), some (jm_I (pre.length : Int)), o4], [], M1) Q := by
    intro rest
    induction rest with
    | nil =>
      intro pre hp o4 s1 M1 fl pa hf hr _ _ _ _ h1 h2
      have hT1 := g_tb_fr hf (by decide) hT
      refine sg_41_4 ⟨fun a => absurd a (tb_nil hT1 hp), fun a => ⟨jm_Bb.1, jm_Bb.2, ?_⟩⟩
      have h1 : b_r ((g_bw w h sl fo ba).map b_K) s = s1 := h1
      have h2 : b_fl ((g_bw w h sl fo ba).map b_K) s = (fl || false) := h2
      rw [h1, h2, Bool.or_false] at hQ
      exact hQ M1 hr hf
    | cons e rest ih =>
      intro pre hp o4 s1 M1 fl pa hf hr hin1 hH1 hpa hJ1 h1 h2
      have hT1 := g_tb_fr hf (by decide) hT
      obtain ⟨t1', t2, t3, t4, t5, t6, t7⟩ := tb_cons hg.1 hT1 hp
      obtain ⟨b1, b2, -, -⟩ := g_Eb hg.1 t3
      obtain ⟨d1, d2, d3, d4⟩ := t_E hg.1 hT1 t3
      obtain ⟨lF, l0, l1⟩ := g_lfF hg t3
      obtain ⟨rF, r0, r1⟩ := g_rtF hg t3
      have htwo := g_two hg.1 t3
      obtain ⟨o1, o2, o3, o4', o5'⟩ := hbo e
      have m4 : M1 4 = fo := by rw [hf 4 (by decide)]; exact hfo
      have ih := fun o4 => ih (pre ++ [e]) t6 o4
      rw [t7] at ih
      have hpa : pa ++ (g_rt w h sl e, g_lf w h sl e, 65536 * fo e + 1, e) :: (g_lf w h sl e, g_rt w h sl e, 65536 * ba e + 1, e) :: (b_ar (g_rt w h sl) (g_lf w h sl) fo ba rest).map b_K = (g_bw w h sl fo ba).map b_K := hpa
      have kb1 := k_bd_of (π := fun v => 65536 * π v) hJ1 hπK g_bwK_W hin1 hN hH1
      have J2 := (b_J_step hpa htwo.symm hJ1).1
      have in2 := b_in_t (s := s1) (x := (g_rt w h sl e, g_lf w h sl e, 65536 * fo e + 1, e)) ((g_fs_mem hg).2 lF) hin1
      have H2 := b_H_t (f := g_rt w h sl e) (g := g_lf w h sl e) (e := e) ⟨o1, o2⟩ kb1 hH1
      have kb2 := k_bd_of (π := fun v => 65536 * π v) J2 hπK g_bwK_W in2 hN H2
      have hpa2 : (pa ++ [(g_rt w h sl e, g_lf w h sl e, 65536 * fo e + 1, e)]) ++ (g_lf w h sl e, g_rt w h sl e, 65536 * ba e + 1, e) :: (b_ar (g_rt w h sl) (g_lf w h sl) fo ba rest).map b_K = (g_bw w h sl fo ba).map b_K := by
        rw [List.append_assoc]
        exact hpa
      have J3 := (b_J_step hpa2 htwo J2).1
      have in3 := b_in_t (s := b_t s1 (g_rt w h sl e, g_lf w h sl e, 65536 * fo e + 1, e)) (x := (g_lf w h sl e, g_rt w h sl e, 65536 * ba e + 1, e)) ((g_fs_mem hg).2 rF) in2
      have H3 := b_H_t (f := g_lf w h sl e) (g := g_rt w h sl e) (e := e) ⟨o3, o4'⟩ kb2 H2
      refine sg_41_4 ⟨fun _ => ⟨t4, t5, ?_⟩, fun q => absurd t1' q⟩
      rw [t2, d3, d4, m4]
      refine ⟨b1, b2, b1, b2, b1, b2, ?_⟩
      refine p_42 (e := e) r0 (by omega) l0 (by omega) ⟨o1, o2⟩ kb1 hr ?_
      intro M2 hr2 hf2
      have hT2 := g_tb_fr hf2 (by decide) hT1
      obtain ⟨-, -, d32, d42⟩ := t_E hg.1 hT2 t3
      have m52 : M2 5 = ba := by rw [hf2 5 (by decide), hf 5 (by decide)]; exact hba
      rw [d32, d42, m52]
      refine ⟨_, rfl, jm_Bb.1, jm_Bb.1, b1, b2, b1, b2, b1, b2, ?_⟩
      refine p_42 (e := e) l0 (by omega) r0 (by omega) ⟨o3, o4'⟩ kb2 hr2 ?_
      intro M3 hr3 hf3
      rw [jm_or_B]
      refine ⟨_, rfl, jm_Bb.1, jm_Bb.1, ⟨by omega, by omega⟩, ?_⟩
      rw [jm_or_B, jm_Bc (R := (fl || (b_ok s1.1 (g_rt w h sl e) (g_lf w h sl e) (65536 * fo e + 1) || b_ok (b_t s1 (g_rt w h sl e, g_lf w h sl e, 65536 * fo e + 1, e)).1 (g_lf w h sl e) (g_rt w h sl e) (65536 * ba e + 1))) = true) (by rw [Bool.or_eq_true, Bool.or_eq_true, or_assoc])]
      refine ih _ _ M3 _ _ (jm_fr_tr (jm_fr_tr hf hf2) hf3) hr3 in3 H3 ?_ J3 h1 ?_
      · rw [List.append_assoc]
        exact hpa2
      · rw [h2]
        show (fl || (_ || (_ || _))) = _
        rw [← Bool.or_assoc, ← Bool.or_assoc]
        rw [Bool.or_assoc fl]
        rfl
  refine sc_41 ?_
  exact L _ [] rfl none s M false [] (jm_fr_rfl _ _) hR hin hH rfl hJ rfl (Bool.false_or _).symm
theorem p_40 {M : jm_Mem} {Q : jm_Q} {to : Int} (hg : g_ok w h sl) (hbo : g_bo fo ba) (hc : g_circ w h sl fo ba) (hT : g_tb w h sl M) (hfo : M 4 = fo) (hba : M 5 = ba) (hto : g_F w h sl to) (hQ : ∀ M', (∀ v, g_F w h sl v → M' 38 v = 4096 * g_dc w h sl fo ba to v + g_dh w h sl fo ba to v) → jm_fr [38] M M' → Q none M') : jm_cl 40 [jm_R 37, jm_R 1, jm_I to] M Q := by
  have hN := g_fs_len (w := w) (h := h) (sl := sl)
  have hb := g_Fb hg hto
  have fin : ∀ (n : Nat) (M1 : jm_Mem), jm_fr [38] M M1 → k_rp (b_n ((g_bw w h sl fo ba).map b_K) n (b_0 to)) M1 → b_fl ((g_bw w h sl fo ba).map b_K) (b_n ((g_bw w h sl fo ba).map b_K) n (b_0 to)) = false → Q none M1 := by
    intro n M1 hf hr hfl
    refine hQ M1 ?_ hf
    intro v hv
    have hvb := g_Fb hg hv
    rw [hr v hvb.1 (by omega), g_dk_of hg hc hto hfl hv]
    rfl
  have L : ∀ k, k ≤ ((g_fs w h sl).length : Int) + 1 → ∀ (n : Nat) (M1 : jm_Mem) (fl : Bool), k = (n : Int) → jm_fr [38] M M1 → k_rp (b_n ((g_bw w h sl fo ba).map b_K) n (b_0 to)) M1 → (fl = false → b_fl ((g_bw w h sl fo ba).map b_K) (b_n ((g_bw w h sl fo ba).map b_K) n (b_0 to)) = false) → jm_run 40 (13, [some (jm_R 37), some (jm_R 1), some (jm_I to), some (jm_I (jm_B (fl = true))), some (jm_I k)], [], M1) Q := by
    refine jm_dn ?_
    intro k hk ihk n M1 fl hkn hf hr hfl
    have hT1 := g_tb_fr hf (by decide) hT
    refine sg_40_13 ?_
    rw [t_fc hg hT1]
    refine ⟨fun a => fin n M1 hf hr (g_bwK_end hg hc hto (by omega)), fun a => ⟨fun b => ?_, fun b => ?_⟩⟩
    · rw [jm_B0, Bool.not_eq_true] at b
      exact fin n M1 hf hr (hfl b)
    · refine p_41 (to := to) (k := n) hg hbo hc hT1 (by rw [hf 4 (by decide)]; exact hfo) (by rw [hf 5 (by decide)]; exact hba) (b_J_n (g_bwK_ne hg) (g_bwK_fs hg) ((g_fs_mem hg).2 hto) n) (b_in_n (g_bwK_fs hg) (b_in_0 ((g_fs_mem hg).2 hto)) n) (g_dk_bd hg hbo hc hto n).2 hr ?_
      intro M2 hr2 hf2
      refine ⟨_, rfl, ⟨by omega, by omega⟩, ihk (by omega) (n + 1) M2 _ (by omega) (jm_fr_tr hf hf2) hr2 ?_⟩
      intro q
      exact b_n_stop2 q (Nat.le_succ n)
  refine sc_40 ?_
  refine jm_fill (n := 73) (l := []) rfl rfl (by decide) ⟨rfl, hb.1, by omega, ?_⟩
  refine L 0 (by omega) 0 _ true rfl ?_ ?_ (fun q => by cases q)
  · exact jm_fr_tr (jm_fr_sr (by decide)) (jm_fr_st (by decide))
  · intro v v0 v1
    simp only [jm_st_e, jm_sr_e, reduceIte]
    show _ = b_ke ((b_0 to).1 v)
    unfold b_0 jm_fl
    dsimp only
    by_cases q : v = to
    · rw [q, jm_up_s, if_pos rfl]
      rfl
    · rw [jm_up_o q, if_neg q, if_pos (by omega)]
      rfl
end A1
