/-! RINGS: as the reference lays them -/
def y_rp (s : b_S) (M : jm_Mem) : Prop := ∀ v, 0 ≤ v → v < 73 → M 77 v = (s.1 v).getD 100000000 ∧ M 78 v = s.2 v
theorem p_165 {s : b_S} {M : jm_Mem} {f g W e t : Int} {Q : jm_Q} (f0 : 0 ≤ f) (f1 : f < 73) (g0 : 0 ≤ g) (g1 : g < 73) (hW : -100 ≤ W ∧ W ≤ 100) (hb : b_bd 100 t s) (t0 : 0 ≤ t) (t1 : t ≤ 20000) (hR : y_rp s M) (hQ : b_ok s.1 f g W = true → ∀ M', y_rp (b_t s (f, g, W, e)) M' → jm_fr [77, 78] M M' → Q (some (jm_I 1)) M') (no : b_ok s.1 f g W = false → Q (some (jm_I 0)) M) : jm_cl 165 [jm_R 67, jm_I f, jm_I g, jm_I W, jm_I e] M Q := by
  have rf := (hR f f0 f1).1
  have rg := (hR g g0 g1).1
  refine sc_165 ⟨f0, f1, fun a => ⟨f0, f1, ?_, g0, g1, fun b => ⟨f0, f1, ?_, g0, g1, g0, g1, by omega, by omega, ?_⟩, fun b => ⟨by omega, by omega, no ?_⟩⟩, fun a => ⟨by omega, by omega, no ?_⟩⟩
  · cases hf : s.1 f with
    | none =>
      rw [hf] at rf
      have : M 77 f = 100000000 := rf
      omega
    | some x =>
      rw [hf] at rf
      have := hb f x hf
      simp only [Option.getD_some] at rf
      exact ⟨by omega, by omega⟩
  · cases hf : s.1 f with
    | none =>
      rw [hf] at rf
      have : M 77 f = 100000000 := rf
      omega
    | some x =>
      rw [hf] at rf
      have := hb f x hf
      simp only [Option.getD_some] at rf
      exact ⟨by omega, by omega⟩
  · have hk : b_ok s.1 f g W = true := by
      unfold b_ok
      cases hf : s.1 f with
      | none =>
        rw [hf] at rf
        have : M 77 f = 100000000 := rf
        omega
      | some x =>
        rw [hf] at rf
        simp only [Option.getD_some] at rf
        cases hg : s.1 g with
        | none => rfl
        | some y =>
          rw [hg] at rg
          simp only [Option.getD_some] at rg
          exact decide_eq_true (by omega)
    have hQ := hQ hk
    rw [b_t_t (x := (f, g, W, e)) hk] at hQ
    refine hQ _ ?_ (jm_fr_tr (jm_fr_st (by decide)) (jm_fr_st (by decide)))
    intro v v0 v1
    simp only [jm_st_e, Nat.reduceEqDiff, reduceIte]
    obtain ⟨r1, r2⟩ := hR v v0 v1
    by_cases q : v = g
    · rw [q, jm_up_s, jm_up_s, b_pt_s, jm_up_s]
      refine ⟨?_, rfl⟩
      obtain ⟨x, hx, hnw, -⟩ := b_ok_t hk
      rw [hx] at rf
      rw [hnw, rf]
      rfl
    · rw [jm_up_o q, jm_up_o q, b_pt_o q, jm_up_o q]
      exact ⟨r1, r2⟩
  · unfold b_ok
    cases hf : s.1 f with
    | none => rfl
    | some x =>
      rw [hf] at rf
      have hbx := hb f x hf
      simp only [Option.getD_some] at rf
      cases hg : s.1 g with
      | none =>
        rw [hg] at rg
        have : M 77 g = 100000000 := rg
        omega
      | some y =>
        rw [hg] at rg
        simp only [Option.getD_some] at rg
        exact decide_eq_false (by omega)
  · unfold b_ok
    cases hf : s.1 f with
    | none => rfl
    | some x =>
      rw [hf] at rf
      have hbx := hb f x hf
      simp only [Option.getD_some] at rf
      omega
section Y1
variable {w h : Int} {sl fo ba fm : Int → Int}
theorem r_166 {M : jm_Mem} {v : Int} (hg : g_ok w h sl) (hX : r_X w h sl M) (hm : M 78 v = fm v) (hv : g_tl w h sl fm v) (Q : jm_Q) : jm_cl 166 [jm_R 67, jm_I v] M Q ↔ Q (some (jm_I (g_ah w h sl fm v))) M := by
  refine jm_cl_e (fun Q hq => sc_166 ?_) Q
  have hb := g_Fb hg hv.1
  rw [hm]
  refine ⟨hb.1, by omega, ?_⟩
  rw [r_128 hg.1 hX hv.2.1]
  unfold g_ah at hq
  refine ⟨_, rfl, fun a => ?_, fun a => ?_⟩
  · rw [r_129 hg.1 hX hv.2.1]
    rw [if_pos a] at hq
    exact ⟨_, rfl, hq⟩
  · rw [r_128 hg.1 hX hv.2.1]
    rw [if_neg a] at hq
    exact ⟨_, rfl, hq⟩
theorem p_167 {s : b_S} {M : jm_Mem} {t : Int} {Q : jm_Q} (hg : g_ok w h sl) (hX : r_X w h sl M) (hfo : M 69 = fo) (hba : M 70 = ba) (hbo : g_bo fo ba) (hb : b_bd 100 t s) (t0 : 0 ≤ t) (t1 : t ≤ 20000) (hR : y_rp s M) (hQ0 : b_ff (g_fw w h sl fo ba) s = none → Q (some (jm_I (-1))) M) (hQ1 : ∀ s' g M', b_ff (g_fw w h sl fo ba) s = some (s', g) → y_rp s' M' → jm_fr [77, 78] M M' → Q (some (jm_I g)) M') : jm_cl 167 [jm_R 67] M Q := by
  have L : ∀ e, e ≤ 108 → 0 ≤ e → b_ff (g_fw w h sl fo ba) s = b_ff (b_ar (g_lf w h sl) (g_rt w h sl) fo ba (g_ls (fun e => g_E w h sl e) 108 e)) s → jm_run 167 (2, [some (jm_R 67), some (jm_I e)], [], M) Q := by
    refine jm_dn ?_
    intro e he ih e0 h1
    refine sg_167_2 ⟨fun a => ?_, fun a => ?_⟩
    · rw [r_124 hg.1 hX]
      refine ⟨_, rfl, fun b => ⟨⟨by omega, by omega⟩, ?_⟩, fun b => ?_⟩
      · rw [jm_B0] at b
        rw [g_ls_n a b] at h1
        exact ih a (by omega) h1
      · rw [jm_Bn] at b
        rw [g_ls_y a b] at h1
        have h1 : b_ff (g_fw w h sl fo ba) s = (if b_ok s.1 (g_lf w h sl e) (g_rt w h sl e) (fo e) = true then some (b_t s (g_lf w h sl e, g_rt w h sl e, fo e, e), g_rt w h sl e) else if b_ok s.1 (g_rt w h sl e) (g_lf w h sl e) (ba e) = true then some (b_t s (g_rt w h sl e, g_lf w h sl e, ba e, e), g_lf w h sl e) else b_ff (b_ar (g_lf w h sl) (g_rt w h sl) fo ba (g_ls (fun e => g_E w h sl e) 108 (e + 1))) s) := h1
        obtain ⟨-, l0, l1⟩ := g_lfF hg b
        obtain ⟨-, r0, r1⟩ := g_rtF hg b
        obtain ⟨o1, o2, o3, o4, o5'⟩ := hbo e
        rw [r_128 hg.1 hX b]
        refine ⟨_, rfl, ?_⟩
        rw [r_129 hg.1 hX b]
        refine ⟨_, rfl, e0, a, ?_⟩
        rw [hfo]
        refine p_165 (e := e) (t := t) l0 (by omega) r0 (by omega) ⟨o1, o2⟩ hb t0 t1 hR ?_ ?_
        · intro c M2 hr2 hf2
          have hX2 : r_X w h sl M2 := by
            unfold r_X at hX ⊢
            rw [hf2 67 (by decide), hf2 68 (by decide)]
            exact hX
          rw [if_pos c] at h1
          refine ⟨1, rfl, fun q => absurd q (by omega), fun _ => ?_⟩
          rw [r_129 hg.1 hX2 b]
          exact ⟨_, rfl, hQ1 _ _ M2 h1 hr2 hf2⟩
        · intro c
          rw [if_neg (by rw [c]; simp)] at h1
          refine ⟨0, rfl, fun _ => ?_, fun q => absurd rfl q⟩
          rw [r_129 hg.1 hX b]
          refine ⟨_, rfl, ?_⟩
          rw [r_128 hg.1 hX b]
          refine ⟨_, rfl, e0, a, ?_⟩
          rw [hba]
          refine p_165 (e := e) (t := t) r0 (by omega) l0 (by omega) ⟨o3, o4⟩ hb t0 t1 hR ?_ ?_
          · intro c M2 hr2 hf2
            have hX2 : r_X w h sl M2 := by
              unfold r_X at hX ⊢
              rw [hf2 67 (by decide), hf2 68 (by decide)]
              exact hX
            rw [if_pos c] at h1
            refine ⟨1, rfl, fun q => absurd q (by omega), fun _ => ?_⟩
            rw [r_128 hg.1 hX2 b]
            exact ⟨_, rfl, hQ1 _ _ M2 h1 hr2 hf2⟩
          · intro c
            rw [if_neg (by rw [c]; simp)] at h1
            exact ⟨0, rfl, fun _ => ⟨⟨by omega, by omega⟩, ih a (by omega) h1⟩, fun q => absurd rfl q⟩
    · rw [g_ls_z (by omega)] at h1
      exact hQ0 h1
  exact sc_167 (L 0 (by omega) (by omega) rfl)
/-- a round -/
theorem p_168_32 {s : b_S} {M : jm_Mem} {t x1 x2 : Int} {Q : jm_Q} (hg : g_ok w h sl) (hX : r_X w h sl M) (hfo : M 69 = fo) (hba : M 70 = ba) (hbo : g_bo fo ba) (t0 : 0 ≤ t) (t1 : t + 216 ≤ 20000) (x20 : 0 ≤ x2) (x21 : x2 < 100) (hQ : ∀ (M' : jm_Mem) o3 o4 o5, jm_fr [77, 78] M M' → y_rp (b_r (g_fw w h sl fo ba) s) M' → b_bd 100 (t + 216) (b_r (g_fw w h sl fo ba) s) → jm_run 168 (27, [some (jm_R 67), some (jm_I x1), some (jm_I (x2 + 1)), o3, o4, o5], [], M') Q) : ∀ e, e ≤ 108 → 0 ≤ e → ∀ (o4 o5 : Option jm_V) (s1 : b_S) (M1 : jm_Mem), jm_fr [77, 78] M M1 → y_rp s1 M1 → b_bd 100 (t + 2 * e) s1 → b_r (g_fw w h sl fo ba) s = b_r (b_ar (g_lf w h sl) (g_rt w h sl) fo ba (g_ls (fun e => g_E w h sl e) 108 e)) s1 → jm_run 168 (32, [some (jm_R 67), some (jm_I x1), some (jm_I x2), some (jm_I e), o4, o5], [], M1) Q := by
  have XX : ∀ M1, jm_fr [77, 78] M M1 → r_X w h sl M1 ∧ M1 69 = fo ∧ M1 70 = ba := by
    intro M1 hf
    refine ⟨?_, by rw [hf 69 (by decide)]; exact hfo, by rw [hf 70 (by decide)]; exact hba⟩
    unfold r_X at hX ⊢
    rw [hf 67 (by decide), hf 68 (by decide)]
    exact hX
  refine jm_dn ?_
  intro e he ih e0 o4 o5 s1 M1 hf hr hbd h1
  obtain ⟨hX1, m4, m5⟩ := XX M1 hf
  refine sg_168_32 ⟨fun a => ?_, fun a => ⟨⟨by omega, by omega⟩, ?_⟩⟩
  · rw [r_124 hg.1 hX1]
    refine ⟨_, rfl, fun b => ⟨⟨by omega, by omega⟩, ?_⟩, fun b => ?_⟩
    · rw [jm_B0] at b
      rw [g_ls_n a b] at h1
      exact ih a (by omega) _ _ s1 M1 hf hr (fun v b hb => by have := hbd v b hb; omega) h1
    · rw [jm_Bn] at b
      rw [g_ls_y a b] at h1
      have h1 : b_r (g_fw w h sl fo ba) s = b_r (b_ar (g_lf w h sl) (g_rt w h sl) fo ba (g_ls (fun e => g_E w h sl e) 108 (e + 1))) (b_t (b_t s1 (g_lf w h sl e, g_rt w h sl e, fo e, e)) (g_rt w h sl e, g_lf w h sl e, ba e, e)) := h1
      obtain ⟨-, l0, l1⟩ := g_lfF hg b
      obtain ⟨-, r0, r1⟩ := g_rtF hg b
      obtain ⟨o1, o2, o3, o4, o5'⟩ := hbo e
      have k1 : b_bd 100 (t + 2 * e + 1) (b_t s1 (g_lf w h sl e, g_rt w h sl e, fo e, e)) := b_bd_t (by omega) ⟨o1, o2⟩ hbd
      have k2 : b_bd 100 (t + 2 * (e + 1)) (b_t (b_t s1 (g_lf w h sl e, g_rt w h sl e, fo e, e)) (g_rt w h sl e, g_lf w h sl e, ba e, e)) := by
        rw [show t + 2 * (e + 1) = t + 2 * e + 1 + 1 by omega]
        exact b_bd_t (by omega) ⟨o3, o4⟩ k1
      have second : ∀ (M2 : jm_Mem) (r4 : Int), jm_fr [77, 78] M M2 → y_rp (b_t s1 (g_lf w h sl e, g_rt w h sl e, fo e, e)) M2 → jm_cl 129 [jm_R 67, jm_I e] M2 (fun r M5 => ∃ r5 : Int, r = some (jm_I r5) ∧ jm_cl 128 [jm_R 67, jm_I e] M5 (fun r M6 => ∃ r6 : Int, r = some (jm_I r6) ∧ (0 : Int) ≤ e ∧ e < 108 ∧ jm_cl 165 [jm_R 67, jm_I r5, jm_I r6, jm_I (M6 70 e), jm_I e] M6 (fun r M7 => ∃ r7 : Int, r = some (jm_I r7) ∧ jm_in (e + 1) ∧ jm_run 168 (32, [some (jm_R 67), some (jm_I x1), some (jm_I x2), some (jm_I (e + 1)), some (jm_I r4), some (jm_I r7)], [], M7) Q))) := by
        intro M2 r4 hf2 hr2
        obtain ⟨hX2, n4, n5⟩ := XX M2 hf2
        rw [r_129 hg.1 hX2 b]
        refine ⟨_, rfl, ?_⟩
        rw [r_128 hg.1 hX2 b]
        refine ⟨_, rfl, e0, a, ?_⟩
        rw [n5]
        refine p_165 (e := e) (t := t + 2 * e + 1) r0 (by omega) l0 (by omega) ⟨o3, o4⟩ k1 (by omega) (by omega) hr2 ?_ ?_
        · intro c M3 hr3 hf3
          exact ⟨1, rfl, ⟨by omega, by omega⟩, ih a (by omega) _ _ _ M3 (jm_fr_tr hf2 hf3) hr3 k2 h1⟩
        · intro c
          rw [b_t_f (x := (g_rt w h sl e, g_lf w h sl e, ba e, e)) c] at h1 k2
          exact ⟨0, rfl, ⟨by omega, by omega⟩, ih a (by omega) _ _ _ M2 hf2 hr2 k2 h1⟩
      rw [r_128 hg.1 hX1 b]
      refine ⟨_, rfl, ?_⟩
      rw [r_129 hg.1 hX1 b]
      refine ⟨_, rfl, e0, a, ?_⟩
      rw [m4]
      refine p_165 (e := e) (t := t + 2 * e) l0 (by omega) r0 (by omega) ⟨o1, o2⟩ hbd (by omega) (by omega) hr ?_ ?_
      · intro c M2 hr2 hf2
        exact ⟨1, rfl, second M2 1 (jm_fr_tr hf hf2) hr2⟩
      · intro c
        refine ⟨0, rfl, second M1 0 hf ?_⟩
        rw [b_t_f (x := (g_lf w h sl e, g_rt w h sl e, fo e, e)) c]
        exact hr
  · rw [g_ls_z (by omega)] at h1
    have h1 : b_r (g_fw w h sl fo ba) s = s1 := h1
    rw [h1] at hQ
    exact hQ M1 _ _ _ hf hr (fun v b hb => by have := hbd v b hb; omega)
end Y1
