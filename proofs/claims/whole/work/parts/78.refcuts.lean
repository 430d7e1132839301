/-! CUTS: the reference -/
theorem r_188 {M : jm_Mem} {fo ba ca : Int → Int} {e b : Int} (e0 : 0 ≤ e) (e1 : e < 108) (hfo : M 69 = fo) (hba : M 70 = ba) (hbo : g_bo fo ba) (hca : M 81 e = ca e) (hc : -1000 ≤ ca e ∧ ca e ≤ 1000) (Q : jm_Q) : jm_cl 188 [jm_R 67, jm_I e, jm_I b] M Q ↔ Q (some (jm_I (c_sp fo ba ca e b))) M := by
  refine jm_cl_e (fun Q h => sc_188 ?_) Q
  have := hbo e
  rw [hfo, hba, hca]
  unfold c_sp at h
  refine ⟨fun a => ⟨e0, e1, e0, e1, ⟨by omega, by omega⟩, ?_⟩, fun a => ⟨e0, e1, e0, e1, ⟨by omega, by omega⟩, ?_⟩⟩
  · rwa [if_pos a] at h
  · rwa [if_neg a] at h
theorem p_189_25 {w h : Int} {sl fo ba ca r : Int → Int} {x1 x2 a : Int} {M : jm_Mem} {Q : jm_Q} (hg : g_ok w h sl) (hX : r_X w h sl M) (hfo : M 69 = fo) (hba : M 70 = ba) (hbo : g_bo fo ba) (hca : ∀ e, g_E w h sl e → M 81 e = ca e) (hcb : c_cb w h sl ca) (h2 : x2 = 0 ∧ a = 1 ∨ x2 = 1 ∧ a = 0) (hQ : ∀ M' o4 o5, c_rp (c_K w h sl fo ba ca a (g_el w h sl) r) (M' 91) → jm_fx [91] [] M M' → jm_run 189 (19, [some (jm_R 67), some (jm_I x1), some (jm_I x2), some (jm_I (jm_B (c_L w h sl fo ba ca a (g_el w h sl) r = true))), o4, o5], [], M') Q) : ∀ e, e ≤ 108 → 0 ≤ e → ∀ (o5 : Option jm_V) (r1 : Int → Int) (M1 : jm_Mem) (fl : Bool), jm_fx [91] [] M M1 → c_rp r1 (M1 91) → c_b r1 → c_K w h sl fo ba ca a (g_el w h sl) r = c_K w h sl fo ba ca a (g_ls (fun e => g_E w h sl e) 108 e) r1 → c_L w h sl fo ba ca a (g_el w h sl) r = (fl || c_L w h sl fo ba ca a (g_ls (fun e => g_E w h sl e) 108 e) r1) → jm_run 189 (25, [some (jm_R 67), some (jm_I x1), some (jm_I x2), some (jm_I (jm_B (fl = true))), some (jm_I e), o5], [], M1) Q := by
  refine jm_dn ?_
  intro e he ih e0 o5 r1 M1 fl hf hr1 hb1 h3 h4
  have hX1 := r_X_fx hf (by decide) (by decide) (by decide) hX
  by_cases q : e < 108
  · refine sg_189_25 ⟨fun _ => ?_, fun p => absurd q p⟩
    have ih := ih q (by omega)
    rw [r_124 hg.1 hX1]
    by_cases hE : g_E w h sl e
    · rw [g_ls_y q hE] at h3 h4
      obtain ⟨n1, n2, n3, n4⟩ := g_Eb36 hg.1 hE
      have hcc := hcb e hE
      have m69 : M1 69 = fo := by rw [hf.1 69 (by decide) (by decide)]; exact hfo
      have m70 : M1 70 = ba := by rw [hf.1 70 (by decide) (by decide)]; exact hba
      have m81 : M1 81 e = ca e := by rw [hf.1 81 (by decide) (by decide)]; exact hca e hE
      have hx1 : c_K w h sl fo ba ca a (e :: g_ls (fun e => g_E w h sl e) 108 (e + 1)) r1 = c_K w h sl fo ba ca a (g_ls (fun e => g_E w h sl e) 108 (e + 1)) (c_t (g_fr sl) (g_to w sl) (c_sp fo ba ca) a r1 e) := rfl
      have hx2 : c_L w h sl fo ba ca a (e :: g_ls (fun e => g_E w h sl e) 108 (e + 1)) r1 = (c_ok (g_fr sl) (g_to w sl) (c_sp fo ba ca) a r1 e || c_L w h sl fo ba ca a (g_ls (fun e => g_E w h sl e) 108 (e + 1)) (c_t (g_fr sl) (g_to w sl) (c_sp fo ba ca) a r1 e)) := rfl
      rw [hx1] at h3
      rw [hx2] at h4
      have e1 := hr1 (g_fr sl e) n1 n2
      have e2 := hr1 (g_to w sl e) n3 n4
      have N : ∀ o5', c_ok (g_fr sl) (g_to w sl) (c_sp fo ba ca) a r1 e = false → jm_run 189 (25, [some (jm_R 67), some (jm_I x1), some (jm_I x2), some (jm_I (jm_B (fl = true))), some (jm_I (e + 1)), o5'], [], M1) Q := by
        intro o5' hk
        rw [hk, Bool.false_or, c_t_f hk] at h4
        rw [c_t_f hk] at h3
        exact ih o5' r1 M1 fl hf hr1 hb1 h3 h4
      have Y : ∀ o5', c_ok (g_fr sl) (g_to w sl) (c_sp fo ba ca) a r1 e = true → jm_cl 125 [jm_R 67, jm_I e] M1 (fun r M6 => ∃ r6 : Int, r = some (jm_I r6) ∧ (0 : Int) ≤ r6 ∧ r6 < 36 ∧ (0 : Int) ≤ 1 ∧ (1 : Int) ≤ 1 ∧ jm_cl 126 [jm_R 67, jm_I e] (jm_st M6 91 r6 1) (fun r M7 => ∃ r7 : Int, r = some (jm_I r7) ∧ (0 : Int) ≤ r7 ∧ r7 < 36 ∧ (0 : Int) ≤ 1 ∧ (1 : Int) ≤ 1 ∧ jm_in (e + 1) ∧ jm_run 189 (25, [some (jm_R 67), some (jm_I x1), some (jm_I x2), some (jm_I 1), some (jm_I (e + 1)), o5'], [], (jm_st M7 91 r7 1)) Q)) := by
        intro o5' hk
        rw [hk, Bool.true_or] at h4
        rw [r_125 hX1 e0 q]
        refine ⟨_, rfl, n1, n2, by omega, by omega, ?_⟩
        rw [r_126 hg.1 (r_X_fx (jm_fx_st (cs := [91]) (is := []) (by decide) (by decide)) (by decide) (by decide) (by decide) hX1) e0 q]
        refine ⟨_, rfl, n3, n4, by omega, by omega, ⟨by omega, by omega⟩, ?_⟩
        have := ih o5' (c_t (g_fr sl) (g_to w sl) (c_sp fo ba ca) a r1 e) (jm_st (jm_st M1 91 (g_fr sl e) 1) 91 (g_to w sl e) 1) true (jm_fx_tr hf (jm_fx_tr (jm_fx_st (by decide) (by decide)) (jm_fx_st (by decide) (by decide)))) (by
          rw [c_t_t hk]
          simp only [jm_st_e, reduceIte]
          exact c_up2 hr1) (c_t_b hb1) h3 (by rw [h4, Bool.or_true, Bool.true_or])
        rw [jm_Bt rfl] at this
        exact this
      refine ⟨_, rfl, fun p => absurd hE (jm_B0.1 p), fun _ => ?_⟩
      rw [r_125 hX1 e0 q]
      refine ⟨_, rfl, n1, n2, ?_⟩
      rw [r_126 hg.1 hX1 e0 q]
      refine ⟨_, rfl, n3, n4, fun p => ⟨⟨by omega, by omega⟩, N _ ?_⟩, fun p => ?_⟩
      · exact decide_eq_false (fun z => z.1 (by rw [← e1, ← e2]; exact p))
      · rw [r_125 hX1 e0 q]
        refine ⟨_, rfl, n1, n2, ?_⟩
        have hne : r1 (g_fr sl e) ≠ r1 (g_to w sl e) := by rw [← e1, ← e2]; exact p
        have hS : ∀ b, jm_B (r1 (g_fr sl e) = a) = b → ((0 < c_sp fo ba ca e b) ↔ c_ok (g_fr sl) (g_to w sl) (c_sp fo ba ca) a r1 e = true) := by
          intro b hb
          unfold c_ok
          rw [hb, decide_eq_true_iff]
          exact ⟨fun q => ⟨hne, q⟩, fun q => q.2⟩
        have hbin := hb1 (g_fr sl e)
        refine ⟨fun s => ?_, fun s => ?_⟩
        · rw [e1] at s
          have hS := hS 0 (jm_Bf (by omega))
          rw [r_188 e0 q m69 m70 hbo m81 hcc]
          refine ⟨_, rfl, fun p => Y _ (hS.1 p), fun p => ⟨⟨by omega, by omega⟩, N _ ?_⟩⟩
          rw [← Bool.not_eq_true]
          exact fun z => p (hS.2 z)
        · rw [e1] at s
          have hS := hS 1 (jm_Bt (by omega))
          rw [r_188 e0 q m69 m70 hbo m81 hcc]
          refine ⟨_, rfl, fun p => Y _ (hS.1 p), fun p => ⟨⟨by omega, by omega⟩, N _ ?_⟩⟩
          rw [← Bool.not_eq_true]
          exact fun z => p (hS.2 z)
    · rw [g_ls_n q hE] at h3 h4
      exact ⟨_, rfl, fun _ => ⟨⟨by omega, by omega⟩, ih o5 r1 M1 fl hf hr1 hb1 h3 h4⟩, fun p => absurd (jm_Bn.1 p) hE⟩
  · refine sg_189_25 ⟨fun p => absurd p q, fun _ => ?_⟩
    rw [g_ls_z (by omega)] at h3 h4
    have h3 : c_K w h sl fo ba ca a (g_el w h sl) r = r1 := h3
    have h4 : c_L w h sl fo ba ca a (g_el w h sl) r = (fl || false) := h4
    rw [h3, h4, Bool.or_false] at hQ
    exact hQ M1 _ _ hr1 hf
theorem p_189_19 {w h : Int} {sl fo ba ca : Int → Int} {x1 x2 a : Int} {M0 : jm_Mem} {Q : jm_Q} (hg : g_ok w h sl) (hX : r_X w h sl M0) (hfo : M0 69 = fo) (hba : M0 70 = ba) (hbo : g_bo fo ba) (hca : ∀ e, g_E w h sl e → M0 81 e = ca e) (hcb : c_cb w h sl ca) (h2 : x2 = 0 ∧ a = 1 ∨ x2 = 1 ∧ a = 0) : ∀ (n : Nat) (r : Int → Int) (M : jm_Mem) (o4 o5 : Option jm_V), c_mu r ≤ n → jm_fx [91] [] M0 M → c_rp r (M 91) → c_b r → (∀ M', c_rp (c_n (g_fr sl) (g_to w sl) (c_sp fo ba ca) a (g_el w h sl) n r) (M' 91) → jm_fx [91] [] M0 M' → Q none M') → jm_run 189 (19, [some (jm_R 67), some (jm_I x1), some (jm_I x2), some (jm_I 1), o4, o5], [], M) Q := by
  intro n
  induction n with
  | zero =>
    intro r M o4 o5 hm hf hr hb hQ
    have hfl : c_L w h sl fo ba ca a (g_el w h sl) r = false := by
      cases hk : c_L w h sl fo ba ca a (g_el w h sl) r with
      | false => rfl
      | true => have := c_mu_lt hb (c_F36 hg.1) hk; omega
    refine sg_189_19 ⟨fun q => by omega, fun _ => ?_⟩
    have := p_189_25 (x1 := x1) (Q := Q) (r := r) hg (r_X_fx hf (by decide) (by decide) (by decide) hX) (by rw [hf.1 69 (by decide) (by decide)]; exact hfo) (by rw [hf.1 70 (by decide) (by decide)]; exact hba) hbo (fun e he => by rw [hf.1 81 (by decide) (by decide)]; exact hca e he) hcb h2 (by
      intro M' o4' o5' hr1 hf1
      have e1 : c_K w h sl fo ba ca a (g_el w h sl) r = r := c_r_z hfl
      rw [e1] at hr1
      rw [hfl, jm_Bf (by simp)]
      exact sg_189_19 ⟨fun _ => hQ M' hr1 (jm_fx_tr hf hf1), fun q => absurd rfl q⟩) 0 (by omega) (by omega) o5 r M false (jm_fx_rfl _ _ _) hr hb rfl (by rw [Bool.false_or])
    rw [jm_Bf (by simp)] at this
    exact this
  | succ n ih =>
    intro r M o4 o5 hm hf hr hb hQ
    refine sg_189_19 ⟨fun q => by omega, fun _ => ?_⟩
    have := p_189_25 (x1 := x1) (Q := Q) (r := r) hg (r_X_fx hf (by decide) (by decide) (by decide) hX) (by rw [hf.1 69 (by decide) (by decide)]; exact hfo) (by rw [hf.1 70 (by decide) (by decide)]; exact hba) hbo (fun e he => by rw [hf.1 81 (by decide) (by decide)]; exact hca e he) hcb h2 (by
      intro M' o4' o5' hr1 hf1
      cases hk : c_L w h sl fo ba ca a (g_el w h sl) r with
      | false =>
        have e1 : c_K w h sl fo ba ca a (g_el w h sl) r = r := c_r_z hk
        rw [e1] at hr1
        rw [c_n_f hk] at hQ
        rw [jm_Bf (by simp)]
        exact sg_189_19 ⟨fun _ => hQ M' hr1 (jm_fx_tr hf hf1), fun q => absurd rfl q⟩
      | true =>
        rw [jm_Bt rfl]
        rw [c_n_t hk] at hQ
        have hlt : c_mu (c_K w h sl fo ba ca a (g_el w h sl) r) < c_mu r := c_mu_lt hb (c_F36 hg.1) hk
        exact ih _ M' _ _ (by omega) (jm_fx_tr hf hf1) hr1 (c_r_b hb) hQ) 0 (by omega) (by omega) o5 r M false (jm_fx_rfl _ _ _) hr hb rfl (by rw [Bool.false_or])
    rw [jm_Bf (by simp)] at this
    exact this
theorem p_189 {w h : Int} {sl fo ba ca : Int → Int} {x1 x2 a : Int} {M : jm_Mem} {Q : jm_Q} (hg : g_ok w h sl) (hX : r_X w h sl M) (hfo : M 69 = fo) (hba : M 70 = ba) (hbo : g_bo fo ba) (hca : ∀ e, g_E w h sl e → M 81 e = ca e) (hcb : c_cb w h sl ca) (h2 : x2 = 0 ∧ a = 1 ∨ x2 = 1 ∧ a = 0) (s0 : 0 ≤ x1) (s1 : x1 < 36) (hQ : ∀ M', c_rp (c_R w h sl fo ba ca a x1) (M' 91) → jm_fx [91] [] M M' → Q none M') : jm_cl 189 [jm_R 67, jm_I x1, jm_I x2] M Q := by
  have L : ∀ k, k ≤ 36 → 0 ≤ k → ∀ M1, jm_fx [91] [] M M1 → (∀ v, 0 ≤ v → v < k → M1 91 v = c_0 x1 v) → jm_run 189 (2, [some (jm_R 67), some (jm_I x1), some (jm_I x2), some (jm_I k), none, none], [], M1) Q := by
    refine jm_dn ?_
    intro k hk ih k0 M1 hf hv
    have go : ∀ b : Int, k < 36 → b = c_0 x1 k → jm_run 189 (2, [some (jm_R 67), some (jm_I x1), some (jm_I x2), some (jm_I (k + 1)), none, none], [], jm_st M1 91 k b) Q := by
      intro b q hb
      refine ih q (by omega) _ (jm_fx_tr hf (jm_fx_st (by decide) (by decide))) ?_
      intro v v0 v1
      simp only [jm_st_e, reduceIte]
      rw [jm_up_e]
      by_cases z : v = k
      · rw [if_pos z, hb, z]
      · rw [if_neg z]; exact hv v v0 (by omega)
    refine sg_189_2 ⟨fun q => ⟨fun p => ⟨k0, q, by omega, by omega, ⟨by omega, by omega⟩, go 1 q (if_pos p).symm⟩, fun p => ⟨k0, q, by omega, by omega, ⟨by omega, by omega⟩, go 0 q (if_neg p).symm⟩⟩, fun q => ?_⟩
    refine p_189_19 (a := a) hg hX hfo hba hbo hca hcb h2 35 (c_0 x1) M1 _ _ (c_mu_0 s0 s1) hf (fun v v0 v1 => hv v v0 (by omega)) (c_0_b x1) hQ
  exact sc_189 (L 0 (by omega) (by omega) M (jm_fx_rfl _ _ _) (fun v v0 v1 => by omega))
/-- inside -/
abbrev c_in (side : Int) (r : Int → Int) (v : Int) : Int := if side = 0 then r v else 1 - r v
/-- the inside of a cut -/
abbrev c_I (w h : Int) (sl fo ba ca : Int → Int) (side s t : Int) : Int → Int := c_in side (c_R w h sl fo ba ca (jm_B (side = 0)) (c_s side s t))
theorem c_I_b {w h : Int} {sl fo ba ca : Int → Int} {side s t : Int} : c_b (c_I w h sl fo ba ca side s t) := by
  intro v
  have := c_R_b (w := w) (h := h) (sl := sl) (fo := fo) (ba := ba) (ca := ca) (a := jm_B (side = 0)) (s := c_s side s t) v
  show (if side = 0 then _ else _) = (0 : Int) ∨ (if side = 0 then _ else _) = (1 : Int)
  by_cases q : side = 0
  · rw [if_pos q]; exact this
  · rw [if_neg q]; omega
theorem p_190 {w h : Int} {sl fo ba ca : Int → Int} {side s t : Int} {M : jm_Mem} {Q : jm_Q} (hg : g_ok w h sl) (hX : r_X w h sl M) (hfo : M 69 = fo) (hba : M 70 = ba) (hbo : g_bo fo ba) (hca : ∀ e, g_E w h sl e → M 81 e = ca e) (hcb : c_cb w h sl ca) (hs : M 82 3 = s) (ht : M 82 4 = t) (hsd : side = 0 ∨ side = 1) (s0 : 0 ≤ s) (s1 : s < 36) (t0 : 0 ≤ t) (t1 : t < 36) (hQ : ∀ M', c_rp (c_I w h sl fo ba ca side s t) (M' 91) → jm_fx [91] [] M M' → Q none M') : jm_cl 190 [jm_R 67, jm_I side] M Q := by
  have L : ∀ M0, jm_fx [91] [] M M0 → c_rp (c_R w h sl fo ba ca (jm_B (side = 0)) (c_s side s t)) (M0 91) → ∀ k, k ≤ 36 → 0 ≤ k → ∀ M1, jm_fx [91] [] M0 M1 → (∀ v, 0 ≤ v → v < k → M1 91 v = c_I w h sl fo ba ca side s t v) → (∀ v, k ≤ v → M1 91 v = M0 91 v) → jm_run 190 (21, [some (jm_R 67), some (jm_I side), some (jm_I k)], [], M1) Q := by
    intro M0 hf0 hr0
    refine jm_dn ?_
    intro k hk ih k0 M1 hf hv hw
    have hbk := c_R_b (w := w) (h := h) (sl := sl) (fo := fo) (ba := ba) (ca := ca) (a := jm_B (side = 0)) (s := c_s side s t) k
    have go : ∀ b : Int, k < 36 → b = c_I w h sl fo ba ca side s t k → jm_run 190 (21, [some (jm_R 67), some (jm_I side), some (jm_I (k + 1))], [], jm_st M1 91 k b) Q := by
      intro b q hb
      refine ih q (by omega) _ (jm_fx_tr hf (jm_fx_st (by decide) (by decide))) ?_ ?_
      · intro v v0 v1
        simp only [jm_st_e, reduceIte]
        rw [jm_up_e]
        by_cases z : v = k
        · rw [if_pos z, hb, z]
        · rw [if_neg z]; exact hv v v0 (by omega)
      · intro v v0
        simp only [jm_st_e, reduceIte]
        rw [jm_up_o (by omega)]
        exact hw v (by omega)
    refine sg_190_21 ⟨fun q => ⟨fun p => ?_, fun p => ⟨k0, q, fun z => ⟨k0, q, by omega, by omega, ⟨by omega, by omega⟩, go 1 q ?_⟩, fun z => ⟨k0, q, by omega, by omega, ⟨by omega, by omega⟩, go 0 q ?_⟩⟩⟩, fun q => ?_⟩
    · have hz := hr0 k k0 q
      rw [← hw k (by omega)] at hz
      refine ⟨k0, q, k0, q, by omega, by omega, ⟨by omega, by omega⟩, go _ q ?_⟩
      rw [hz]
      exact (if_pos p).symm
    · have hz := hr0 k k0 q
      rw [← hw k (by omega)] at hz
      show (1 : Int) = if side = 0 then _ else _
      rw [if_neg p]; omega
    · have hz := hr0 k k0 q
      rw [← hw k (by omega)] at hz
      show (0 : Int) = if side = 0 then _ else _
      rw [if_neg p]; omega
    · exact hQ M1 (fun v v0 v1 => hv v v0 (by omega)) (jm_fx_tr hf0 hf)
  have go : ∀ x b, x = c_s side s t → (b = 0 ∧ jm_B (side = 0) = 1 ∨ b = 1 ∧ jm_B (side = 0) = 0) → jm_cl 189 [jm_R 67, jm_I x, jm_I b] M (fun r M1 => r = none ∧ jm_run 190 (21, [some (jm_R 67), some (jm_I side), some (jm_I 0)], [], M1) Q) := by
    intro x b hx hb
    have x01 : 0 ≤ x ∧ x < 36 := by
      rw [hx]; unfold c_s
      by_cases q : side = 0
      · rw [if_pos q]; exact ⟨s0, s1⟩
      · rw [if_neg q]; exact ⟨t0, t1⟩
    refine p_189 hg hX hfo hba hbo hca hcb hb x01.1 x01.2 ?_
    intro M' hr hf
    rw [hx] at hr
    exact ⟨rfl, L M' hf hr 0 (by omega) (by omega) M' (jm_fx_rfl _ _ _) (fun v v0 v1 => by omega) (fun v _ => rfl)⟩
  refine sc_190 ⟨fun q => ⟨by omega, by omega, fun p => by omega, fun p => ?_⟩, fun q => ⟨by omega, by omega, fun p => ?_, fun p => by omega⟩⟩
  · exact go _ _ (by rw [hs]; exact (if_pos q).symm) (Or.inl ⟨rfl, jm_Bt q⟩)
  · exact go _ _ (by rw [ht]; exact (if_neg q).symm) (Or.inr ⟨rfl, jm_Bf q⟩)
/-- the edges of a cut -/
abbrev c_C (w h : Int) (sl i : Int → Int) (e : Int) : Prop := g_E w h sl e ∧ i (g_fr sl e) ≠ i (g_to w sl e)
theorem r_191 {w h : Int} {sl i : Int → Int} {M : jm_Mem} (hg : g_sd w h) (hX : r_X w h sl M) (hi : c_rp i (M 91)) {e : Int} (e0 : 0 ≤ e) (e1 : e < 108) (Q : jm_Q) : jm_cl 191 [jm_R 67, jm_I e] M Q ↔ Q (some (jm_I (jm_B (c_C w h sl i e)))) M := by
  refine jm_cl_e (fun Q hQ => sc_191 ?_) Q
  rw [r_124 hg hX]
  refine ⟨_, rfl, fun p => ⟨by omega, by omega, ?_⟩, fun p => ?_⟩
  · rwa [jm_Bf (fun z => jm_B0.1 p z.1)] at hQ
  · have hE := jm_Bn.1 p
    obtain ⟨n1, n2, n3, n4⟩ := g_Eb36 hg hE
    rw [r_125 hX e0 e1]
    refine ⟨_, rfl, n1, n2, ?_⟩
    rw [r_126 hg hX e0 e1]
    refine ⟨_, rfl, n3, n4, fun z => ⟨by omega, by omega, ?_⟩, fun z => ⟨by omega, by omega, ?_⟩⟩
    · rw [hi _ n1 n2, hi _ n3 n4] at z
      rwa [jm_Bf (fun y => y.2 z)] at hQ
    · rw [hi _ n1 n2, hi _ n3 n4] at z
      rwa [jm_Bt ⟨hE, z⟩] at hQ
