/-! SHARED: the reference -/
section W2
variable {w h : Int} {sl fo ba : Int → Int}
theorem r_196 {M : jm_Mem} {n : Int} (hg : g_sd w h) (hX : r_X w h sl M) (hn : g_nd w h n) (Q : jm_Q) : jm_cl 196 [jm_R 67, jm_I n] M Q ↔ Q (some (jm_I (jm_B (g_os w h n)))) M := by
  refine jm_cl_e (fun Q hq => sc_196 ?_) Q
  obtain ⟨e1, e2, e3⟩ := hX
  obtain ⟨g1, g2, g3, g4⟩ := id hg
  rw [e1, e2, jm_rm_e hn.1, jm_dv_e hn.1]
  refine ⟨by omega, fun a => ⟨by omega, by omega, ?_⟩, fun a => ⟨by omega, ⟨by omega, by omega⟩, fun b => ⟨by omega, by omega, ?_⟩, fun b => ⟨by omega, fun c => ⟨by omega, by omega, ?_⟩, fun c => ⟨by omega, ⟨by omega, by omega⟩, fun d => ⟨by omega, by omega, ?_⟩, fun d => ⟨by omega, by omega, ?_⟩⟩⟩⟩⟩
  · rwa [jm_Bt (Or.inl a)] at hq
  · rwa [jm_Bt (Or.inr (Or.inl b))] at hq
  · rwa [jm_Bt (Or.inr (Or.inr (Or.inl c)))] at hq
  · rwa [jm_Bt (Or.inr (Or.inr (Or.inr d)))] at hq
  · rwa [jm_Bf (by omega)] at hq
theorem p_197 {M : jm_Mem} {n : Int} {Q : jm_Q} (hg : g_sd w h) (hX : r_X w h sl M) (hn : g_nd w h n) (hQ : Q (some (jm_I (g_cg w h n))) (jm_st M 67 49 (g_cn w h n))) : jm_cl 197 [jm_R 67, jm_I n] M Q := by
  obtain ⟨e1, e2, e3⟩ := hX
  obtain ⟨g1, g2, g3, g4⟩ := id hg
  have hnb := g_nb hg hn
  have hxy := g_xy hg hn.1 hn.2
  unfold g_cg g_cn at hQ
  have last : ¬ (n / w = 0 ∧ n % w < w - 1) → ¬ (n % w = w - 1 ∧ n / w < h - 1) → jm_run 197 (51, [some (jm_R 67), some (jm_I n), some (jm_I (n % w)), some (jm_I (n / w))], [], M) Q := by
    intro q1 q2
    rw [if_neg q1, if_neg q1, if_neg q2, if_neg q2] at hQ
    refine sg_197_51 ?_
    simp only [jm_st_e, reduceIte]
    rw [e2, e1, jm_up_o (by omega), e1]
    refine ⟨⟨by omega, by omega⟩, fun a => ⟨fun b => ⟨⟨by omega, by omega⟩, ⟨by omega, by omega⟩, ⟨by omega, by omega⟩, ?_⟩, fun b => ⟨⟨by omega, by omega⟩, ⟨by omega, by omega⟩, ⟨by omega, by omega⟩, ⟨by omega, by omega⟩, ?_⟩⟩, fun a => ⟨⟨by omega, by omega⟩, ⟨by omega, by omega⟩, ⟨by omega, by omega⟩, ⟨by omega, by omega⟩, ?_⟩⟩
    · rw [if_pos ⟨a, b⟩, if_pos ⟨a, b⟩] at hQ
      exact hQ
    · rw [if_neg (fun q => b q.2), if_neg (fun q => b q.2)] at hQ
      exact hQ
    · rw [if_neg (fun q => a q.1), if_neg (fun q => a q.1)] at hQ
      exact hQ
  refine sc_197 ?_
  rw [e1, e2, jm_rm_e hn.1, jm_dv_e hn.1]
  refine ⟨by omega, by omega, fun a => ⟨⟨by omega, by omega⟩, fun b => ⟨⟨by omega, by omega⟩, ⟨by omega, by omega⟩, ?_⟩, fun b => ⟨⟨by omega, by omega⟩, fun c => ⟨⟨by omega, by omega⟩, fun d => ⟨⟨by omega, by omega⟩, ⟨by omega, by omega⟩, ⟨by omega, by omega⟩, ?_⟩, fun d => last (by omega) (by omega)⟩, fun c => last (by omega) (by omega)⟩⟩, fun a => ⟨⟨by omega, by omega⟩, fun c => ⟨⟨by omega, by omega⟩, fun d => ⟨⟨by omega, by omega⟩, ⟨by omega, by omega⟩, ⟨by omega, by omega⟩, ?_⟩, fun d => last (by omega) (by omega)⟩, fun c => last (by omega) (by omega)⟩⟩
  · rw [if_pos ⟨a, b⟩, if_pos ⟨a, b⟩] at hQ
    exact hQ
  · have nA : ¬ (n / w = 0 ∧ n % w < w - 1) := by omega
    have pB : n % w = w - 1 ∧ n / w < h - 1 := ⟨c, d⟩
    rw [if_neg nA, if_neg nA, if_pos pB, if_pos pB] at hQ
    exact hQ
  · have nA : ¬ (n / w = 0 ∧ n % w < w - 1) := by omega
    have pB : n % w = w - 1 ∧ n / w < h - 1 := ⟨c, d⟩
    rw [if_neg nA, if_neg nA, if_pos pB, if_pos pB] at hQ
    exact hQ
theorem p_198_25 {M : jm_Mem} {a b : Int} {m : Nat} {Q : jm_Q} (hg : g_ok w h sl) (hbo : g_bo fo ba) (hc : g_circ w h sl fo ba) (hX : r_X w h sl M) (hfo : M 69 = fo) (hba : M 70 = ba) (a0 : 0 ≤ a) (a1 : a < g_rR w h) (b0 : 0 ≤ b) (b1 : b < g_rR w h) (hm1 : 1 ≤ m) (hm : (m : Int) < g_rR w h) (hst : g_st w h m a = b) (hno : ∀ j : Nat, j < m → g_st w h j a ≠ b) (hQ : ∀ M', jm_fx [74, 75, 76] [24, 49] M M' → Q (some (jm_I (g_sv w h sl fo ba (g_mk w h m a (fun _ => 0))))) M') : jm_run 198 (25, [some (jm_R 67), some (jm_I (g_rn w h a)), some (jm_I (g_rn w h b)), some (jm_I 0), none], [], M) Q := by
  have hN := g_fs_len (w := w) (h := h) (sl := sl)
  obtain ⟨k1, k2⟩ := g_mk_two hg a0 a1 b0 b1 hm1 hm hst hno
  obtain ⟨E1, O1⟩ := g_rim_E (sl := sl) hg.1 a0 a1
  obtain ⟨E2, O2⟩ := g_rim_E (sl := sl) hg.1 b0 b1
  generalize hil : g_mk w h m a (fun _ => 0) = il at k1 k2 hQ
  have last : ∀ M1 : jm_Mem, jm_fx [74, 75, 76] [24, 49] M M1 → (∀ e, 0 ≤ e → e < 108 → M1 76 e = il e) → jm_run 198 (37, [some (jm_R 67), some (jm_I (g_rn w h a)), some (jm_I (g_rn w h b)), some (jm_I (g_rn w h b)), none], [], M1) Q := by
    intro M1 hf h76
    have hf2 : jm_fx [74, 75, 76] [24, 49] M (jm_st M1 67 24 1) := jm_fx_tr hf (jm_fx_sx (by decide))
    refine sg_198_37 ⟨fun _ => ⟨by omega, by omega, ?_⟩, fun q => absurd rfl q⟩
    have hxa : x_ar w h sl fo ba 1 ((jm_st M1 67 24 1) 76) 0 (g_el w h sl) = ((g_ha w h sl fo ba il).map b_K).map (b_ren g_72) := by
      rw [← x_ar_h hg (show (1 : Int) ≠ 0 by omega)]
      unfold x_ar
      rw [if_pos rfl, if_pos rfl]
      refine b_ar_cong ?_
      intro e he
      have hb := g_Eb hg.1 ((g_el_mem hg.1).1 he)
      have q76 : (jm_st M1 67 24 1) 76 e = il e := by
        simp only [jm_st_e, Nat.reduceEqDiff, reduceIte]
        exact h76 e hb.1 hb.2.1
      unfold g_ln g_rn'
      rw [q76]
      exact ⟨rfl, rfl⟩
    refine p_158 (hv := 1) (ih := (jm_st M1 67 24 1) 76) hg hbo (r_X_fx hf2 (by decide) (by decide) (by decide) hX) (by rw [hf2.1 69 (by decide) (by decide)]; exact hfo) (by rw [hf2.1 70 (by decide) (by decide)]; exact hba) (by rw [jm_st_e, if_pos rfl, jm_up_s]) rfl (by omega) (by omega) ?_ ?_
    · intro k M' hk h1 h2 h3
      rw [hxa, show (73 : Int) = g_72 72 from rfl, b_sw_n g_72_i] at h1 h2
      rw [b_sw_fl g_72_i] at h1
      have h1' := b_flK (g_kb hk) h1
      refine ⟨1, rfl, by omega, by omega, by omega, by omega, ?_⟩
      have e1 : (jm_st M' 67 24 0) 74 72 = g_sv w h sl fo ba il := by
        simp only [jm_st_e, Nat.reduceEqDiff, reduceIte]
        obtain ⟨c, q1, q2⟩ := b_cost (g_kb hk) (g_sv_of hg hc E1 O1 k1 E2 O2 k2 h1')
        have h4 := (h2 72 (by omega) (by omega)).1
        have h5 : (b_sw g_72 (b_n ((g_ha w h sl fo ba il).map b_K) k (b_0 72))).1 72 = some c := q1
        rw [h4, h5]
        exact q2
      rw [e1]
      refine hQ _ (jm_fx_tr (jm_fx_tr hf2 ⟨fun c p _ => h3 c (fun q => p (by simp at q ⊢; omega)), fun i _ => by rw [h3 67 (by decide)]⟩) (jm_fx_sx (by decide)))
    · intro M' h1 h3
      rw [hxa, show (73 : Int) = g_72 72 from rfl, b_sw_n g_72_i, b_sw_fl g_72_i, g_haK_end hg hc (show (g_fs w h sl).length < 74 + 1 by omega)] at h1
      cases h1
  have L : ∀ (m' : Nat), ∀ (x : Int) (M1 : jm_Mem) (f : Int → Int), 0 ≤ x → x < g_rR w h → (m' : Int) < g_rR w h → g_st w h m' x = b → (∀ j : Nat, j < m' → g_st w h j x ≠ b) → jm_fx [74, 75, 76] [24, 49] M M1 → (∀ e, 0 ≤ e → e < 108 → M1 76 e = f e) → (∀ e, il e = g_mk w h m' x f e) → jm_run 198 (37, [some (jm_R 67), some (jm_I (g_rn w h a)), some (jm_I (g_rn w h b)), some (jm_I (g_rn w h x)), none], [], M1) Q := by
    intro m'
    induction m' with
    | zero =>
      intro x M1 f x0 x1 hm' hs hn hf hfe hmk
      have hs : x = b := hs
      rw [hs]
      exact last M1 hf (fun e e0 e1 => by rw [hmk e]; exact hfe e e0 e1)
    | succ m' ih =>
      intro x M1 f x0 x1 hm' hs hn hf hfe hmk
      obtain ⟨q1, q2, q3, q4, q5, -, -⟩ := g_rim1 hg.1 x0 x1
      have hxb : x ≠ b := hn 0 (by omega)
      have hnx := g_nx_b hg.1 x0 x1
      refine sg_198_37 ⟨fun q => absurd (g_rim2 hg.1 x0 x1 b0 b1 (Or.inl q)) hxb, fun _ => ?_⟩
      refine p_197 hg.1 (r_X_fx hf (by decide) (by decide) (by decide) hX) q1 ?_
      rw [q3, q4]
      refine ⟨_, rfl, q5.1, q5.2, by omega, by omega, ?_⟩
      simp only [jm_st_e, Nat.reduceEqDiff, reduceIte]
      rw [jm_up_s]
      refine ih (g_nx w h x) _ (jm_up f (g_rg w h x) 1) hnx.1 hnx.2 (by omega) hs (fun j hj => hn (j + 1) (by omega)) (jm_fx_tr hf (jm_fx_tr (jm_fx_sx (by decide)) (jm_fx_st (by decide) (by decide)))) ?_ hmk
      intro e e0 e1
      simp only [jm_st_e, Nat.reduceEqDiff, reduceIte]
      by_cases q : e = g_rg w h x
      · rw [q, jm_up_s, jm_up_s]
      · rw [jm_up_o q, jm_up_o q]
        exact hfe e e0 e1
  have L0 : ∀ e, e ≤ 108 → 0 ≤ e → ∀ M1 : jm_Mem, jm_fx [74, 75, 76] [24, 49] M M1 → (∀ v, 0 ≤ v → v < e → M1 76 v = 0) → jm_run 198 (25, [some (jm_R 67), some (jm_I (g_rn w h a)), some (jm_I (g_rn w h b)), some (jm_I e), none], [], M1) Q := by
    refine jm_dn ?_
    intro e he ih e0 M1 hf hz
    refine sg_198_25 ⟨fun c => ⟨e0, c, by omega, by omega, ⟨by omega, by omega⟩, ih c (by omega) _ (jm_fx_tr hf (jm_fx_st (by decide) (by decide))) ?_⟩, fun c => L m a M1 (fun _ => 0) a0 a1 hm hst hno hf (fun v v0 v1 => hz v v0 (by omega)) (fun v => by rw [hil])⟩
    intro v v0 v1
    simp only [jm_st_e, reduceIte]
    by_cases q : v = e
    · rw [q, jm_up_s]
    · rw [jm_up_o q]
      exact hz v v0 (by omega)
  exact L0 0 (by omega) (by omega) M (jm_fx_rfl _ _ _) (fun v a b => by omega)
end W2
