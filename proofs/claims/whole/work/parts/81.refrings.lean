/-! CUTS: their rings, the reference -/
theorem r_194 {w h : Int} {sl : Int → Int} {M : jm_Mem} (hg : g_sd w h) (hX : r_X w h sl M) {e g : Int} (he : g_E w h sl e) (hE : g_E w h sl g) (Q : jm_Q) : jm_cl 194 [jm_R 67, jm_I e, jm_I g] M Q ↔ Q (some (jm_I (jm_B (c_bs (g_lf w h sl) (g_rt w h sl) e g)))) M := by
  refine jm_cl_e (fun Q hQ => sc_194 ?_) Q
  rw [r_128 hg hX he]
  refine ⟨_, rfl, ?_⟩
  rw [r_152 hg hX]
  refine ⟨_, rfl, fun p => ?_, fun p => ⟨by omega, by omega, ?_⟩⟩
  · rw [r_129 hg hX he]
    refine ⟨_, rfl, ?_⟩
    rw [r_152 hg hX]
    refine ⟨_, rfl, fun q => ⟨by omega, by omega, ?_⟩, fun q => ⟨by omega, by omega, ?_⟩⟩
    · rw [jm_B0] at p q
      rwa [jm_Bf] at hQ
      intro z
      rcases z with z | z
      · exact p ⟨hE, z⟩
      · exact q ⟨hE, z⟩
    · rwa [jm_Bt (Or.inr (jm_Bn.1 q).2)] at hQ
  · rwa [jm_Bt (Or.inl (jm_Bn.1 p).2)] at hQ
def c_q' (P f : Int → Int) : Prop := ∀ v, 0 ≤ v → v < 108 → f v = P v
theorem c_bs_s {A B : Int → Int} {e g : Int} (h : c_bs A B e g) : c_bs A B g e := by
  rcases h with (q | q) | (q | q)
  · exact Or.inl (Or.inl q.symm)
  · exact Or.inr (Or.inl q.symm)
  · exact Or.inl (Or.inr q.symm)
  · exact Or.inr (Or.inr q.symm)
abbrev c_DD (w h : Int) (sl i : Int → Int) (x y : Int) (a b : Int) : Prop := c_C w h sl i a ∧ c_C w h sl i b ∧ c_bs (g_lf w h sl) (g_rt w h sl) a b ∧ (a < x ∧ b < a ∨ a = x ∧ b < y)
theorem p_195_70 {P : Int → Int} {x1 x2 e g : Int} {M : jm_Mem} {Q : jm_Q} (hq : c_q' P (M 92)) (hQ : ∀ M' o5 o6 o7, c_q' (fun k => if P k = P e then P g else P k) (M' 92) → jm_fx [92] [] M M' → jm_run 195 (33, [some (jm_R 67), some (jm_I x1), some (jm_I x2), some (jm_I e), some (jm_I (g + 1)), o5, o6, o7], [], M') Q) (g0 : 0 ≤ g) (g1 : g < 108) : jm_run 195 (70, [some (jm_R 67), some (jm_I x1), some (jm_I x2), some (jm_I e), some (jm_I g), some (jm_I (P e)), some (jm_I (P g)), some (jm_I 0)], [], M) Q := by
  have L : ∀ k, k ≤ 108 → 0 ≤ k → ∀ M1, jm_fx [92] [] M M1 → (∀ v, 0 ≤ v → v < 108 → M1 92 v = if v < k then (if P v = P e then P g else P v) else P v) → jm_run 195 (70, [some (jm_R 67), some (jm_I x1), some (jm_I x2), some (jm_I e), some (jm_I g), some (jm_I (P e)), some (jm_I (P g)), some (jm_I k)], [], M1) Q := by
    refine jm_dn ?_
    intro k hk ih k0 M1 hf hv
    by_cases z : k < 108
    · have ih := ih z (by omega)
      have hvk := hv k k0 z
      rw [if_neg (by omega)] at hvk
      refine sg_195_70 ⟨fun _ => ⟨k0, z, fun y => ⟨k0, z, ⟨by omega, by omega⟩, ih _ (jm_fx_tr hf (jm_fx_st (by decide) (by decide))) ?_⟩, fun y => ⟨k0, z, k0, z, ⟨by omega, by omega⟩, ih _ (jm_fx_tr hf (jm_fx_st (by decide) (by decide))) ?_⟩⟩, fun y => absurd z y⟩
      · intro v v0 v1
        simp only [jm_st_e, reduceIte]
        rw [hvk] at y
        by_cases x : v = k
        · rw [x, jm_up_s, if_pos (by omega), if_pos y]
        · rw [jm_up_o x, hv v v0 v1]
          by_cases u : v < k
          · rw [if_pos u, if_pos (c := v < k + 1) (by omega)]
          · rw [if_neg u, if_neg (c := v < k + 1) (by omega)]
      · intro v v0 v1
        simp only [jm_st_e, reduceIte]
        rw [hvk] at y
        by_cases x : v = k
        · rw [x, jm_up_s, hvk, if_pos (c := k < k + 1) (by omega), if_neg y]
        · rw [jm_up_o x, hv v v0 v1]
          by_cases u : v < k
          · rw [if_pos u, if_pos (c := v < k + 1) (by omega)]
          · rw [if_neg u, if_neg (c := v < k + 1) (by omega)]
    · refine sg_195_70 ⟨fun y => absurd y z, fun _ => ⟨⟨by omega, by omega⟩, hQ M1 _ _ _ ?_ hf⟩⟩
      intro v v0 v1
      rw [hv v v0 v1, if_pos (by omega)]
  refine L 0 (by omega) (by omega) M (jm_fx_rfl _ _ _) ?_
  intro v v0 v1
  rw [if_neg (by omega)]
  exact hq v v0 v1
theorem p_195_33 {w h : Int} {sl i : Int → Int} {x1 x2 e : Int} {M : jm_Mem} {Q : jm_Q} (hg : g_ok w h sl) (hX : r_X w h sl M) (hi : c_rp i (M 91)) (e0 : 0 ≤ e) (e1 : e < 108) (hQ : ∀ M' P o4 o5 o6 o7, c_q' P (M' 92) → c_PI (c_C w h sl i) (g_lf w h sl) (g_rt w h sl) (c_DD w h sl i e e) P → jm_fx [92] [] M M' → jm_run 195 (28, [some (jm_R 67), some (jm_I x1), some (jm_I x2), some (jm_I (e + 1)), o4, o5, o6, o7], [], M') Q) : ∀ g, g ≤ e → 0 ≤ g → ∀ (M1 : jm_Mem) (P : Int → Int) (o5 o6 o7 : Option jm_V), jm_fx [92] [] M M1 → c_q' P (M1 92) → c_PI (c_C w h sl i) (g_lf w h sl) (g_rt w h sl) (c_DD w h sl i e g) P → jm_run 195 (33, [some (jm_R 67), some (jm_I x1), some (jm_I x2), some (jm_I e), some (jm_I g), o5, o6, o7], [], M1) Q := by
  refine jm_dn ?_
  intro g hge ih g0 M1 P o5 o6 o7 hf hq hP
  have hX1 := r_X_fx hf (by decide) (by decide) (by decide) hX
  have hi1 : c_rp i (M1 91) := by rw [hf.1 91 (by decide) (by decide)]; exact hi
  by_cases q : g < e
  · have ih := ih q (by omega)
    have skip : (c_C w h sl i e → c_C w h sl i g → c_bs (g_lf w h sl) (g_rt w h sl) e g → P e = P g) → jm_run 195 (33, [some (jm_R 67), some (jm_I x1), some (jm_I x2), some (jm_I e), some (jm_I (g + 1)), o5, o6, o7], [], M1) Q := by
      intro hs
      refine ih M1 P o5 o6 o7 hf hq (c_PI_m hP ?_)
      intro a b hd
      obtain ⟨d1, d2, d3, d4⟩ := hd
      by_cases z : a = e ∧ b = g
      · right
        obtain ⟨z1, z2⟩ := z
        subst z1 z2
        exact hs d1 d2 d3
      · exact Or.inl ⟨d1, d2, d3, by omega⟩
    refine sg_195_33 ⟨fun _ => ?_, fun z => absurd q z⟩
    rw [r_191 hg.1 hX1 hi1 e0 e1]
    refine ⟨_, rfl, fun p => ⟨⟨by omega, by omega⟩, skip (fun z => absurd z (jm_B0.1 p))⟩, fun p => ?_⟩
    rw [r_191 hg.1 hX1 hi1 g0 (by omega)]
    refine ⟨_, rfl, fun p' => ⟨⟨by omega, by omega⟩, skip (fun _ z => absurd z (jm_B0.1 p'))⟩, fun p' => ?_⟩
    have hCe := jm_Bn.1 p
    have hCg := jm_Bn.1 p'
    rw [hq e e0 e1, hq g g0 (by omega)]
    refine ⟨e0, e1, g0, by omega, fun y => ⟨⟨by omega, by omega⟩, skip (fun _ _ _ => y)⟩, fun y => ?_⟩
    rw [r_194 hg.1 hX1 hCe.1 hCg.1]
    refine ⟨_, rfl, fun u => ⟨⟨by omega, by omega⟩, skip (fun _ _ z => absurd z (jm_B0.1 u))⟩, fun u => ⟨e0, e1, g0, by omega, ?_⟩⟩
    rw [hq e e0 e1, hq g g0 (by omega)]
    refine p_195_70 hq ?_ g0 (by omega)
    intro M2 o5' o6' o7' hq2 hf2
    refine ih M2 _ o5' o6' o7' (jm_fx_tr hf hf2) hq2 (c_merge hP hCe hCg (jm_Bn.1 u) y ?_)
    intro a b hd
    obtain ⟨d1, d2, d3, d4⟩ := hd
    by_cases z : a = e ∧ b = g
    · exact Or.inr z
    · exact Or.inl ⟨d1, d2, d3, by omega⟩
  · refine sg_195_33 ⟨fun z => absurd z q, fun _ => ⟨⟨by omega, by omega⟩, hQ M1 P _ _ _ _ hq (c_PI_m hP ?_) hf⟩⟩
    intro a b hd
    obtain ⟨d1, d2, d3, d4⟩ := hd
    exact Or.inl ⟨d1, d2, d3, by omega⟩
theorem p_195_97 {w h : Int} {sl i P : Int → Int} {x1 : Int} {M : jm_Mem} {Q : jm_Q} (hg : g_ok w h sl) (hX : r_X w h sl M) (hi : c_rp i (M 91)) (hq : c_q' P (M 92)) (o4 o5 o6 o7 : Option jm_V) (hQ : Q (some (jm_I ((g_ls (fun e => c_C w h sl i e ∧ P e = e) 108 0).length : Int))) M) : jm_run 195 (97, [some (jm_R 67), some (jm_I x1), some (jm_I 0), some (jm_I 0), o4, o5, o6, o7], [], M) Q := by
  have L : ∀ e, e ≤ 108 → 0 ≤ e → ∀ n, 0 ≤ n → n ≤ e → ((g_ls (fun e => c_C w h sl i e ∧ P e = e) 108 0).length : Int) = n + ((g_ls (fun e => c_C w h sl i e ∧ P e = e) 108 e).length : Int) → jm_run 195 (97, [some (jm_R 67), some (jm_I x1), some (jm_I n), some (jm_I e), o4, o5, o6, o7], [], M) Q := by
    refine jm_dn ?_
    intro e he ih e0 n n0 n1 hn
    by_cases q : e < 108
    · have ih := ih q (by omega)
      refine sg_195_97 ⟨fun _ => ?_, fun z => absurd q z⟩
      rw [r_191 hg.1 hX hi e0 q, hq e e0 q]
      refine ⟨_, rfl, fun p => ⟨⟨by omega, by omega⟩, ⟨by omega, by omega⟩, ih _ (by omega) (by omega) ?_⟩, fun p => ⟨e0, q, fun y => ⟨⟨by omega, by omega⟩, ⟨by omega, by omega⟩, ih _ (by omega) (by omega) ?_⟩, fun y => ⟨⟨by omega, by omega⟩, ⟨by omega, by omega⟩, ih _ (by omega) (by omega) ?_⟩⟩⟩
      · rw [g_ls_n (P := fun e => c_C w h sl i e ∧ P e = e) (e := e) q (fun z => jm_B0.1 p z.1)] at hn
        omega
      · rw [g_ls_y (P := fun e => c_C w h sl i e ∧ P e = e) (e := e) q ⟨jm_Bn.1 p, y⟩, List.length_cons] at hn
        omega
      · rw [g_ls_n (P := fun e => c_C w h sl i e ∧ P e = e) (e := e) q (fun z => y z.2)] at hn
        omega
    · rw [g_ls_z (P := fun e => c_C w h sl i e ∧ P e = e) (e := e) (by omega)] at hn
      have hn : ((g_ls (fun e => c_C w h sl i e ∧ P e = e) 108 0).length : Int) = n + 0 := hn
      rw [hn, Int.add_zero] at hQ
      exact sg_195_97 ⟨fun z => absurd z q, fun _ => hQ⟩
  exact L 0 (by omega) (by omega) 0 (by omega) (by omega) (Int.zero_add _).symm
theorem p_195_28 {w h : Int} {sl i : Int → Int} {x1 : Int} {M : jm_Mem} {Q : jm_Q} (hg : g_ok w h sl) (hX : r_X w h sl M) (hi : c_rp i (M 91)) (hQ : ∀ M' P, c_PI (c_C w h sl i) (g_lf w h sl) (g_rt w h sl) (fun e g => c_C w h sl i e ∧ c_C w h sl i g ∧ c_bs (g_lf w h sl) (g_rt w h sl) e g) P → jm_fx [92] [] M M' → Q (some (jm_I ((g_ls (fun e => c_C w h sl i e ∧ P e = e) 108 0).length : Int))) M') : ∀ e, e ≤ 108 → 0 ≤ e → ∀ (M1 : jm_Mem) (P : Int → Int) (o4 o5 o6 o7 : Option jm_V), jm_fx [92] [] M M1 → c_q' P (M1 92) → c_PI (c_C w h sl i) (g_lf w h sl) (g_rt w h sl) (c_DD w h sl i e 0) P → jm_run 195 (28, [some (jm_R 67), some (jm_I x1), some (jm_I 0), some (jm_I e), o4, o5, o6, o7], [], M1) Q := by
  refine jm_dn ?_
  intro e he ih e0 M1 P o4 o5 o6 o7 hf hq hP
  have hX1 := r_X_fx hf (by decide) (by decide) (by decide) hX
  have hi1 : c_rp i (M1 91) := by rw [hf.1 91 (by decide) (by decide)]; exact hi
  by_cases q : e < 108
  · have ih := ih q (by omega)
    refine sg_195_28 ⟨fun _ => ?_, fun z => absurd q z⟩
    refine p_195_33 hg hX1 hi1 e0 q ?_ 0 (by omega) (by omega) M1 P o5 o6 o7 (jm_fx_rfl _ _ _) hq hP
    intro M2 P2 o4' o5' o6' o7' hq2 hP2 hf2
    refine ih M2 P2 o4' o5' o6' o7' (jm_fx_tr hf hf2) hq2 (c_PI_m hP2 ?_)
    intro a b hd
    obtain ⟨d1, d2, d3, d4⟩ := hd
    have := g_Eb hg.1 d2.1
    exact Or.inl ⟨d1, d2, d3, by omega⟩
  · refine sg_195_28 ⟨fun z => absurd z q, fun _ => ?_⟩
    refine p_195_97 (P := P) hg hX1 hi1 hq _ _ _ _ (hQ M1 P (c_PI_m hP ?_) hf)
    intro a b hd
    obtain ⟨d1, d2, d3⟩ := hd
    have ha := g_Eb hg.1 d1.1
    have hb := g_Eb hg.1 d2.1
    by_cases z : b < a
    · exact Or.inl ⟨d1, d2, d3, by omega⟩
    · right
      by_cases y : a = b
      · rw [y]
      · exact (hP.2.1 b a ⟨d2, d1, c_bs_s d3, by omega⟩).symm
theorem p_195_16 {w h : Int} {sl i : Int → Int} {x1 : Int} {M : jm_Mem} {Q : jm_Q} (hg : g_ok w h sl) (hX : r_X w h sl M) (hi : c_rp i (M 91)) (hQ : ∀ M' P, c_PI (c_C w h sl i) (g_lf w h sl) (g_rt w h sl) (fun e g => c_C w h sl i e ∧ c_C w h sl i g ∧ c_bs (g_lf w h sl) (g_rt w h sl) e g) P → jm_fx [92] [] M M' → Q (some (jm_I ((g_ls (fun e => c_C w h sl i e ∧ P e = e) 108 0).length : Int))) M') : jm_run 195 (16, [some (jm_R 67), some (jm_I x1), some (jm_I 0), some (jm_I 0), none, none, none, none], [], M) Q := by
  have L : ∀ k, k ≤ 108 → 0 ≤ k → ∀ M1, jm_fx [92] [] M M1 → (∀ v, 0 ≤ v → v < k → M1 92 v = v) → jm_run 195 (16, [some (jm_R 67), some (jm_I x1), some (jm_I 0), some (jm_I k), none, none, none, none], [], M1) Q := by
    refine jm_dn ?_
    intro k hk ih k0 M1 hf hv
    by_cases q : k < 108
    · refine sg_195_16 ⟨fun _ => ⟨k0, q, ⟨by omega, by omega⟩, ih q (by omega) _ (jm_fx_tr hf (jm_fx_st (by decide) (by decide))) ?_⟩, fun z => absurd q z⟩
      intro v v0 v1
      simp only [jm_st_e, reduceIte]
      rw [jm_up_e]
      by_cases z : v = k
      · rw [if_pos z, z]
      · rw [if_neg z]; exact hv v v0 (by omega)
    · refine sg_195_16 ⟨fun z => absurd z q, fun _ => ?_⟩
      have hz := c_PI_0 (C := c_C w h sl i) (A := g_lf w h sl) (B := g_rt w h sl)
      refine p_195_28 hg hX hi hQ 0 (by omega) (by omega) M1 (fun e => e) _ _ _ _ hf (fun v v0 v1 => hv v v0 (by omega)) ⟨hz.1, ?_, hz.2.2⟩
      intro a b hd
      obtain ⟨d1, d2, d3, d4⟩ := hd
      have := g_Eb hg.1 d1.1
      have := g_Eb hg.1 d2.1
      omega
  exact L 0 (by omega) (by omega) M (jm_fx_rfl _ _ _) (fun v v0 v1 => by omega)
