/-! THE CLASS: potentials, or the first face that gets less in one round more -/
def b_ff : List b_A → b_S → Option (b_S × Int)
  | [], _ => none
  | x :: A, s => if b_ok s.1 x.1 x.2.1 x.2.2.1 = true then some (b_t s x, x.2.1) else b_ff A s
theorem b_ff_fl : ∀ {A : List b_A} {s : b_S}, b_ff A s = none ↔ b_fl A s = false
  | [], s => ⟨fun _ => rfl, fun _ => rfl⟩
  | x :: A, s => by
    show (if b_ok s.1 x.1 x.2.1 x.2.2.1 = true then some (b_t s x, x.2.1) else b_ff A s) = none ↔ (b_ok s.1 x.1 x.2.1 x.2.2.1 || b_fl A (b_t s x)) = false
    cases hk : b_ok s.1 x.1 x.2.1 x.2.2.1 with
    | true => simp
    | false =>
      rw [b_t_f hk, Bool.false_or, if_neg (by simp)]
      exact b_ff_fl
/-- what edges bear -/
abbrev g_bo (fo ba : Int → Int) : Prop := ∀ e, -100 ≤ fo e ∧ fo e ≤ 100 ∧ -100 ≤ ba e ∧ ba e ≤ 100 ∧ 0 ≤ fo e + ba e
/-- behind the one arc of an edge the other one does nothing -/
theorem b_once {s : b_S} {f g c d e : Int} (hfg : f ≠ g) (hcd : 0 ≤ c + d) (h : b_ok s.1 f g c = true) : b_ok (b_t s (f, g, c, e)).1 g f d = false := by
  obtain ⟨a, ha, hnw, hlt⟩ := b_ok_t h
  refine b_sat_f (x := (g, f, d, e)) ?_
  rw [b_t_t (x := (f, g, c, e)) h]
  intro b hb
  dsimp only at hb ⊢
  rw [b_pt_s] at hb
  injection hb with hb
  exact ⟨a, by rw [b_pt_o hfg]; exact ha, by omega⟩
def d_rp (s : b_S) (M : jm_Mem) : Prop := ∀ v, 0 ≤ v → v < 73 → M 34 v = (s.1 v).getD 2147483647 ∧ M 35 v = s.2 v
theorem p_2 {s : b_S} {M : jm_Mem} {f g W e t : Int} {Q : jm_Q} (f0 : 0 ≤ f) (f1 : f < 73) (g0 : 0 ≤ g) (g1 : g < 73) (hW : -100 ≤ W ∧ W ≤ 100) (hb : b_bd 100 t s) (t0 : 0 ≤ t) (t1 : t ≤ 20000) (hR : d_rp s M) (hQ1 : b_ok s.1 f g W = true → ∀ M', d_rp (b_t s (f, g, W, e)) M' → jm_fr [33, 34, 35] M M' → M' 33 5 = g → Q (some (jm_I 1)) M') (hQ0 : b_ok s.1 f g W = false → Q (some (jm_I 0)) M) : jm_cl 2 [jm_R 33, jm_I f, jm_I g, jm_I e, jm_I W] M Q := by
  have rf := (hR f f0 f1).1
  have rg := (hR g g0 g1).1
  refine sc_2 ⟨f0, f1, fun a => ⟨by omega, by omega, hQ0 ?_⟩, fun a => ⟨f0, f1, ?_, g0, g1, fun b => ⟨f0, f1, ?_, g0, g1, g0, g1, by omega, by omega, ?_⟩, fun b => ⟨by omega, by omega, hQ0 ?_⟩⟩⟩
  · unfold b_ok
    cases hf : s.1 f with
    | none => rfl
    | some x =>
      rw [hf] at rf
      have := hb f x hf
      simp only [Option.getD_some] at rf
      omega
  · cases hf : s.1 f with
    | none => rw [hf] at rf; exact absurd rf a
    | some x =>
      rw [hf] at rf
      have := hb f x hf
      simp only [Option.getD_some] at rf
      exact ⟨by omega, by omega⟩
  · cases hf : s.1 f with
    | none => rw [hf] at rf; exact absurd rf a
    | some x =>
      rw [hf] at rf
      have := hb f x hf
      simp only [Option.getD_some] at rf
      exact ⟨by omega, by omega⟩
  · have hk : b_ok s.1 f g W = true := by
      unfold b_ok
      cases hf : s.1 f with
      | none => rw [hf] at rf; exact absurd rf a
      | some x =>
        rw [hf] at rf
        simp only [Option.getD_some] at rf
        cases hg : s.1 g with
        | none => rfl
        | some y =>
          rw [hg] at rg
          simp only [Option.getD_some] at rg
          exact decide_eq_true (by omega)
    refine hQ1 hk _ ?_ ?_ ?_
    · rw [b_t_t (x := (f, g, W, e)) hk]
      intro v v0 v1
      simp only [jm_st_e, Nat.reduceEqDiff, reduceIte]
      obtain ⟨r1, r2⟩ := hR v v0 v1
      by_cases q : v = g
      · rw [q, jm_up_s, jm_up_s, b_pt_s, jm_up_s]
        refine ⟨?_, rfl⟩
        obtain ⟨x, hx, hnw, -⟩ := b_ok_t hk
        rw [hx] at rf
        rw [hnw, rf]
        rfl
      · rw [jm_up_o q, jm_up_o q, b_pt_o q, jm_up_o q]
        exact ⟨r1, r2⟩
    · exact jm_fr_tr (jm_fr_tr (jm_fr_st (by decide)) (jm_fr_st (by decide))) (jm_fr_st (by decide))
    · simp only [jm_st_e, Nat.reduceEqDiff, reduceIte]
      rw [jm_up_s]
  · unfold b_ok
    cases hf : s.1 f with
    | none => rfl
    | some x =>
      rw [hf] at rf
      have hbx := hb f x hf
      simp only [Option.getD_some] at rf
      cases hg : s.1 g with
      | none =>
        rw [hg] at rg
        have : M 34 g = 2147483647 := rg
        omega
      | some y =>
        rw [hg] at rg
        simp only [Option.getD_some] at rg
        exact decide_eq_false (by omega)
theorem jm_or_B {P R : Prop} [Decidable P] [Decidable R] : jm_or (jm_B P) (jm_B R) = jm_B (P ∨ R) := by
  unfold jm_B
  by_cases hp : P <;> by_cases hr : R <;> simp only [hp, hr, if_true, if_false, true_or, or_true, or_self] <;> rfl
/-- what a round of the class needs -/
theorem p_1 {w h : Int} {sl fo ba : Int → Int} {s : b_S} {M : jm_Mem} {t : Int} {Q : jm_Q} (hg : g_ok w h sl) (hT : g_tb w h sl M) (hfo : M 4 = fo) (hba : M 5 = ba) (hbo : g_bo fo ba) (hb : b_bd 100 t s) (t0 : 0 ≤ t) (t1 : t + 216 ≤ 20000) (hR : d_rp s M) (hQ : ∀ M', d_rp (b_r (g_fw w h sl fo ba) s) M' → b_bd 100 (t + 216) (b_r (g_fw w h sl fo ba) s) → jm_fr [33, 34, 35] M M' → Q (some (jm_I (jm_B (b_fl (g_fw w h sl fo ba) s = true)))) M') : jm_cl 1 [jm_R 33, jm_R 1, jm_I 0] M Q := by
  have L : ∀ (rest pre : List Int), pre ++ rest = g_el w h sl → ∀ (o5 o6 o7 : Option jm_V) (s1 : b_S) (M1 : jm_Mem) (fl : Bool), jm_fr [33, 34, 35] M M1 → d_rp s1 M1 → b_bd 100 (t + 2 * (pre.length : Int)) s1 → b_r (g_fw w h sl fo ba) s = b_r (b_ar (g_lf w h sl) (g_rt w h sl) fo ba rest) s1 → b_fl (g_fw w h sl fo ba) s = (fl || b_fl (b_ar (g_lf w h sl) (g_rt w h sl) fo ba rest) s1) → jm_run 1 (4, [some (jm_R 33), some (jm_R 1), some (jm_I 0), some (jm_I (jm_B (fl = true))), some (jm_I (pre.length : Int)), o5, o6, o7], [], M1) Q := by
    intro rest
    induction rest with
    | nil =>
      intro pre hp o5 o6 o7 s1 M1 fl hf hr hbd h1 h2
      have hT1 := g_tb_fr hf (by decide) hT
      refine sg_1_4 ⟨fun a => absurd a (tb_nil hT1 hp), fun a => ⟨jm_Bb.1, jm_Bb.2, ?_⟩⟩
      have h1 : b_r (g_fw w h sl fo ba) s = s1 := h1
      have h2 : b_fl (g_fw w h sl fo ba) s = (fl || false) := h2
      have hln : ((g_el w h sl).length : Int) ≤ 108 - 0 := g_ls_len 0 (by omega)
      rw [← hp, List.append_nil] at hln
      rw [h1, h2, Bool.or_false] at hQ
      exact hQ M1 hr (fun v a ha => by have := hbd v a ha; omega) hf
    | cons e rest ih =>
      intro pre hp o5 o6 o7 s1 M1 fl hf hr hbd h1 h2
      have hT1 := g_tb_fr hf (by decide) hT
      obtain ⟨t1', t2, t3, t4, t5, t6, t7⟩ := tb_cons hg.1 hT1 hp
      obtain ⟨b1, b2, -, -⟩ := g_Eb hg.1 t3
      obtain ⟨d1, d2, d3, d4⟩ := t_E hg.1 hT1 t3
      obtain ⟨-, l0, l1⟩ := g_lfF hg t3
      obtain ⟨-, r0, r1⟩ := g_rtF hg t3
      have htwo := g_two hg.1 t3
      obtain ⟨o1, o2, o3, o4, o5'⟩ := hbo e
      have m4 : M1 4 = fo := by rw [hf 4 (by decide)]; exact hfo
      have m5 : M1 5 = ba := by rw [hf 5 (by decide)]; exact hba
      have hx1 : b_r (b_ar (g_lf w h sl) (g_rt w h sl) fo ba (e :: rest)) s1 = b_r (b_ar (g_lf w h sl) (g_rt w h sl) fo ba rest) (b_t (b_t s1 (g_lf w h sl e, g_rt w h sl e, fo e, e)) (g_rt w h sl e, g_lf w h sl e, ba e, e)) := rfl
      have hx2 : b_fl (b_ar (g_lf w h sl) (g_rt w h sl) fo ba (e :: rest)) s1 = (b_ok s1.1 (g_lf w h sl e) (g_rt w h sl e) (fo e) || (b_ok (b_t s1 (g_lf w h sl e, g_rt w h sl e, fo e, e)).1 (g_rt w h sl e) (g_lf w h sl e) (ba e) || b_fl (b_ar (g_lf w h sl) (g_rt w h sl) fo ba rest) (b_t (b_t s1 (g_lf w h sl e, g_rt w h sl e, fo e, e)) (g_rt w h sl e, g_lf w h sl e, ba e, e)))) := rfl
      rw [hx1] at h1
      rw [hx2] at h2
      have ih := fun o5 o6 o7 => ih (pre ++ [e]) t6 o5 o6 o7
      rw [t7] at ih
      have k1 : b_bd 100 (t + 2 * (pre.length : Int) + 1) (b_t s1 (g_lf w h sl e, g_rt w h sl e, fo e, e)) := b_bd_t (by omega) ⟨o1, o2⟩ hbd
      have k2 : b_bd 100 (t + 2 * ((pre.length : Int) + 1)) (b_t (b_t s1 (g_lf w h sl e, g_rt w h sl e, fo e, e)) (g_rt w h sl e, g_lf w h sl e, ba e, e)) := by
        rw [show t + 2 * ((pre.length : Int) + 1) = t + 2 * (pre.length : Int) + 1 + 1 by omega]
        exact b_bd_t (by omega) ⟨o3, o4⟩ k1
      refine sg_1_4 ⟨fun _ => ⟨fun _ => ⟨t4, t5, ?_⟩, fun q => absurd rfl q⟩, fun q => absurd t1' q⟩
      rw [t2, d3, d4, m4]
      refine ⟨b1, b2, b1, b2, b1, b2, ?_⟩
      refine p_2 (t := t + 2 * (pre.length : Int)) l0 (by omega) r0 (by omega) ⟨o1, o2⟩ hbd (by omega) (by omega) hr ?_ ?_
      · intro hk M2 hr2 hf2 _
        refine ⟨1, rfl, fun q => absurd q (by omega), fun _ => ⟨jm_Bb.1, by omega, ⟨by omega, by omega⟩, ?_⟩⟩
        have hno := b_once (e := e) htwo o5' hk
        rw [b_t_f (x := (g_rt w h sl e, g_lf w h sl e, ba e, e)) hno] at h1 h2 k2
        rw [hk, Bool.true_or, Bool.or_true] at h2
        have e1 : jm_or (jm_B (fl = true)) 1 = jm_B (true = true) := by
          rw [show (1 : Int) = jm_B (true = true) from rfl, jm_or_B]
          exact jm_Bc (by simp)
        rw [e1]
        exact ih _ _ _ _ M2 true (jm_fr_tr hf hf2) hr2 k2 h1 (by rw [h2, Bool.true_or])
      · intro hk
        refine ⟨0, rfl, fun _ => ⟨b1, b2, ?_⟩, fun q => absurd rfl q⟩
        rw [b_t_f (x := (g_lf w h sl e, g_rt w h sl e, fo e, e)) hk] at h1 h2 k1 k2
        rw [hk, Bool.false_or] at h2
        rw [m5]
        refine p_2 (t := t + 2 * (pre.length : Int)) r0 (by omega) l0 (by omega) ⟨o3, o4⟩ hbd (by omega) (by omega) hr ?_ ?_
        · intro hk2 M2 hr2 hf2 _
          refine ⟨1, rfl, fun q => absurd q (by omega), fun _ => ⟨jm_Bb.1, by omega, ⟨by omega, by omega⟩, ?_⟩⟩
          rw [hk2, Bool.true_or, Bool.or_true] at h2
          have e1 : jm_or (jm_B (fl = true)) 1 = jm_B (true = true) := by
            rw [show (1 : Int) = jm_B (true = true) from rfl, jm_or_B]
            exact jm_Bc (by simp)
          rw [e1]
          exact ih _ _ _ _ M2 true (jm_fr_tr hf hf2) hr2 k2 h1 (by rw [h2, Bool.true_or])
        · intro hk2
          refine ⟨0, rfl, fun _ => ⟨jm_Bb.1, by omega, ⟨by omega, by omega⟩, ?_⟩, fun q => absurd rfl q⟩
          rw [hk2, Bool.false_or] at h2
          rw [b_t_f (x := (g_rt w h sl e, g_lf w h sl e, ba e, e)) hk2] at h1 h2 k2
          have e1 : jm_or (jm_B (fl = true)) 0 = jm_B (fl = true) := by
            rw [show (0 : Int) = jm_B (false = true) from rfl, jm_or_B]
            exact jm_Bc (by simp)
          rw [e1]
          exact ih _ _ _ _ M1 fl hf hr k2 h1 h2
  refine sc_1 ?_
  refine L _ [] rfl none none none s M false (jm_fr_rfl _ _) hR ?_ rfl (Bool.false_or _).symm
  simpa using hb
