/-! THE SEARCH: the reference -/
section X1
variable {w h : Int} {sl fo ba rn wt : Int → Int}
theorem e_171 {M : jm_Mem} {e b : Int} (e0 : 0 ≤ e) (e1 : e < 108) (hbo : g_bo (M 69) (M 70)) (hc : -1000 ≤ M 80 e ∧ M 80 e ≤ 1000) (Q : jm_Q) : jm_cl 171 [jm_R 67, jm_I e, jm_I b] M Q ↔ Q (some (jm_I (if b = 0 then M 70 e + M 80 e else M 69 e - M 80 e))) M := by
  refine jm_cl_e (fun Q hq => sc_171 ?_) Q
  obtain ⟨o1, o2, o3, o4, o5⟩ := hbo e
  refine ⟨fun a => ⟨e0, e1, e0, e1, ⟨by omega, by omega⟩, ?_⟩, fun a => ⟨e0, e1, e0, e1, ⟨by omega, by omega⟩, ?_⟩⟩
  · rwa [if_pos a] at hq
  · rwa [if_neg a] at hq
theorem e_174 {M : jm_Mem} {n t : Int} (n0 : 0 ≤ n) (n1 : n < 36) (Q : jm_Q) : jm_cl 174 [jm_R 67, jm_I n, jm_I t] M Q ↔ Q (some (jm_I (jm_B ((t < 0 ∧ 0 < M 90 n) ∨ (¬ t < 0 ∧ n = t))))) M := by
  refine jm_cl_e (fun Q hq => sc_174 ?_) Q
  refine ⟨fun a => ⟨n0, n1, fun b => ⟨by omega, by omega, ?_⟩, fun b => ⟨by omega, by omega, ?_⟩⟩, fun a => ⟨fun b => ⟨by omega, by omega, ?_⟩, fun b => ⟨by omega, by omega, ?_⟩⟩⟩
  · rwa [jm_Bt (Or.inl ⟨a, b⟩)] at hq
  · rwa [jm_Bf (by omega)] at hq
  · rwa [jm_Bt (Or.inr ⟨a, b⟩)] at hq
  · rwa [jm_Bf (by omega)] at hq
/-- what the reference's memory holds of a search -/
def x_sr (st : List k_F) (se : Int → Bool) (M : jm_Mem) : Prop := k_rs (M 85) (M 86) (M 87) (M 88) st ∧ M 67 45 = (st.length : Int) ∧ ∀ n, 0 ≤ n → n < 36 → M 89 n = jm_B (se n = true)
theorem p_175 {M : jm_Mem} {s t : Int} {Q : jm_Q} (hg : g_ok w h sl) (hbo : g_bo fo ba) (hX : r_X w h sl M) (hfo : M 69 = fo) (hba : M 70 = ba) (hrn : ∀ e, g_E w h sl e → M 80 e = rn e ∧ -1000 ≤ rn e ∧ rn e ≤ 1000) (hwt : ∀ n, g_nd w h n → (0 < wt n ↔ ((t < 0 ∧ 0 < M 90 n) ∨ (¬ t < 0 ∧ n = t)))) (hs : g_nd w h s) (hQ1 : ∀ st se M', k_way w h sl fo ba rn wt s = some st → k_ok w h sl fo ba rn st se → x_sr st se M' → jm_fx [85, 86, 87, 88, 89] [45] M M' → Q (some (jm_I 1)) M') (hQ0 : k_way w h sl fo ba rn wt s = none → ∀ M', jm_fx [85, 86, 87, 88, 89] [45] M M' → Q (some (jm_I 0)) M') : jm_cl 175 [jm_R 67, jm_I s, jm_I t] M Q := by
  have sb := g_nb hg.1 hs
  have L : ∀ (μ : Nat), ∀ (fu : Nat) (st : List k_F) (se : Int → Bool) (M1 : jm_Mem) (x3 : Int) (o4 o5 o6 o7 : Option jm_V), k_mu st se = (μ : Int) → k_mu st se + 1 < (fu : Int) → k_way w h sl fo ba rn wt s = k_rn w h sl fo ba rn wt fu st se → k_ok w h sl fo ba rn st se → x_sr st se M1 → jm_fx [85, 86, 87, 88, 89] [45] M M1 → jm_run 175 (35, [some (jm_R 67), some (jm_I s), some (jm_I t), some (jm_I x3), o4, o5, o6, o7], [], M1) Q := by
    intro μ
    induction μ with
    | zero =>
      intro fu st se M1 x3 o4 o5 o6 o7 hmu hfu hway hk hR hf
      have hms := k_ms_b hk
      unfold k_mu at hmu
      obtain ⟨fu, rfl⟩ : ∃ f', fu = f' + 1 := ⟨fu - 1, by unfold k_mu at hfu; omega⟩
      match st, hms, hway, hR with
      | [], hms, hway, hR =>
        have hn : k_way w h sl fo ba rn wt s = none := hway
        have r2 : M1 67 45 = 0 := hR.2.1
        exact sg_175_35 ⟨fun a => by omega, fun a => ⟨by omega, by omega, hQ0 hn M1 hf⟩⟩
      | f :: rest, hms, hway, hR =>
        rw [List.length_cons] at hms
        omega
    | succ μ ih =>
      intro fu st se M1 x3 o4 o5 o6 o7 hmu hfu hway hk hR hf
      have hX1 := r_X_fx hf (by decide) (by decide) (by decide) hX
      obtain ⟨fu, rfl⟩ : ∃ f', fu = f' + 1 := ⟨fu - 1, by omega⟩
      match st, hk, hway, hR, hmu, hfu with
      | [], hk, hway, hR, hmu, hfu =>
        have hn : k_way w h sl fo ba rn wt s = none := hway
        have r2 : M1 67 45 = 0 := hR.2.1
        exact sg_175_35 ⟨fun a => by omega, fun a => ⟨by omega, by omega, hQ0 hn M1 hf⟩⟩
      | (n, e, fi, tr) :: rest, hk, hway, hR, hmu, hfu =>
        have hln := k_ok_len hg.1 hk
        rw [List.length_cons] at hln
        obtain ⟨s1, s2⟩ := k_step (wt := wt) hg hk (by simp)
        have hk' := hk
        obtain ⟨k1, k2, k3, k4, k5, k6⟩ := hk
        obtain ⟨⟨q1, q2, q3, q4, q5⟩, r2, r3⟩ := hR
        have q1 : M1 85 (rest.length : Int) = n := q1
        have q3 : M1 87 (rest.length : Int) = fi := q3
        have q4 : M1 88 (rest.length : Int) = tr := q4
        have r2 : M1 67 45 = (rest.length : Int) + 1 := by rw [r2, List.length_cons]; omega
        have hway : k_way w h sl fo ba rn wt s = match k_nx w h sl fo ba rn wt ((n, e, fi, tr) :: rest) se with
          | (some true, st', _) => some st'
          | (some false, _, _) => none
          | (none, st', se') => k_rn w h sl fo ba rn wt fu st' se' := hway
        rw [k_nx_c] at hway s1 s2
        have e1 : M1 67 45 - 1 = (rest.length : Int) := by omega
        refine sg_175_35 ?_
        rw [e1, q1, q3, q4]
        refine ⟨fun a => ⟨⟨by omega, by omega⟩, by omega, by omega, by omega, by omega, fun c => ⟨⟨by omega, by omega⟩, sg_175_160 ?_⟩, fun c => ?_⟩, fun a => by omega⟩
        · rw [if_pos c] at hway s1 s2
          dsimp only at hway s1 s2
          refine ih fu rest se _ _ _ _ _ _ (by omega) (by omega) hway s1 ⟨?_, ?_, ?_⟩ (jm_fx_tr hf (jm_fx_sx (by decide)))
          · simp only [jm_st_e, Nat.reduceEqDiff, reduceIte]
            exact q5
          · simp only [jm_st_e, reduceIte]
            rw [jm_up_s]
          · intro m m0 m1
            simp only [jm_st_e, Nat.reduceEqDiff, reduceIte]
            exact r3 m m0 m1
        · rw [if_neg c] at hway s1 s2
          have hd : jm_rm (fi + tr) 8 = (fi + tr) % 8 := jm_rm_e (by omega)
          have hd0 : 0 ≤ (fi + tr) % 8 := by omega
          have hd1 : (fi + tr) % 8 < 8 := by omega
          rw [hd]
          have hM1 : jm_fx [85, 86, 87, 88, 89] [45] M1 (jm_st M1 88 (rest.length : Int) (tr + 1)) := jm_fx_st (by decide) (by decide)
          have hX2 := r_X_fx hM1 (by decide) (by decide) (by decide) hX1
          have hf2 := jm_fx_tr hf hM1
          have hR2 : x_sr ((n, e, fi, tr + 1) :: rest) se (jm_st M1 88 (rest.length : Int) (tr + 1)) := by
            refine ⟨?_, ?_, ?_⟩
            · simp only [jm_st_e, Nat.reduceEqDiff, reduceIte]
              refine ⟨q1, q2, q3, jm_up_s _ _ _, k_rs_cg ?_ q5⟩
              intro i i0 i1
              rw [jm_up_o (by omega)]
              exact ⟨rfl, rfl, rfl, rfl⟩
            · simp only [jm_st_e, Nat.reduceEqDiff, reduceIte]
              rw [r2, List.length_cons]
              omega
            · intro m m0 m1
              simp only [jm_st_e, Nat.reduceEqDiff, reduceIte]
              exact r3 m m0 m1
          generalize jm_st M1 88 (rest.length : Int) (tr + 1) = M2 at hM1 hX2 hf2 hR2
          generalize (fi + tr) % 8 = d at *
          refine ⟨by omega, by omega, by omega, by omega, ⟨by omega, by omega⟩, by omega, by omega, by omega, ⟨by omega, by omega⟩, by omega, by omega, ?_⟩
          rw [r_172 hg.1 hX2 k1 hd0 hd1]
          have no : ¬ k_on w h sl fo ba rn n d se → ∀ x3 o4 o5 o6 o7, jm_run 175 (35, [some (jm_R 67), some (jm_I s), some (jm_I t), some (jm_I x3), o4, o5, o6, o7], [], M2) Q := by
            intro ho x3 o4 o5 o6 o7
            rw [if_neg ho] at hway s1 s2
            dsimp only at hway s1 s2
            exact ih fu _ se M2 _ _ _ _ _ (by omega) (by omega) hway s1 hR2 hf2
          refine ⟨_, rfl, fun b => sg_175_94 ⟨fun _ => sg_175_160 (no (fun q => ?_) _ _ _ _ _), fun q => absurd b q⟩, fun b => ?_⟩
          · have := q.1
            rcases g_at_i hg k1 hd0 hd1 with z | ⟨z, -⟩
            · exact this z
            · have := z.1
              omega
          · rcases g_at_i hg k1 hd0 hd1 with z | ⟨hE, hdir⟩
            · omega
            have hon : k_on w h sl fo ba rn n d se ↔ (0 < k_lf sl fo ba rn (g_at w h sl n d) n ∧ se (k_ot w sl (g_at w h sl n d) n) = false) := ⟨fun q => q.2, fun q => ⟨by omega, q⟩⟩
            obtain ⟨b1, b2, -, -⟩ := g_Eb hg.1 hE
            have hends : g_fr sl (g_at w h sl n d) = n ∨ g_to w sl (g_at w h sl n d) = n := hdir.elim (fun q => Or.inl q.1.symm) (fun q => Or.inr q.1.symm)
            have hot := k_ot_ne hg.1 hE hends
            have hob := g_nb hg.1 hot.1
            rw [r_173 hg.1 hX2 b1 b2]
            refine ⟨k_ot w sl (g_at w h sl n d) n, rfl, sg_175_94 ⟨fun q => absurd q b, fun _ => ⟨hob.1, hob.2, ?_⟩⟩⟩
            rw [hR2.2.2 _ hob.1 hob.2]
            refine ⟨fun f => ?_, fun f => sg_175_160 (no (fun q => ?_) _ _ _ _ _)⟩
            · rw [jm_B0, Bool.not_eq_true] at f
              have m4 : M2 69 = fo := by rw [hf2.1 69 (by decide) (by decide)]; exact hfo
              have m5 : M2 70 = ba := by rw [hf2.1 70 (by decide) (by decide)]; exact hba
              have m80 : M2 80 (g_at w h sl n d) = rn (g_at w h sl n d) := by rw [hf2.1 80 (by decide) (by decide)]; exact (hrn (g_at w h sl n d) hE).1
              have hrb := (hrn (g_at w h sl n d) hE).2
              have e45 : M2 67 45 = (rest.length : Int) + 1 := by rw [hR2.2.1, List.length_cons]; omega
              rw [r_125 hX2 b1 b2]
              have ks : ∀ (b : Int), (b = 0 ↔ ¬ g_fr sl (g_at w h sl n d) = n) → jm_cl 171 [jm_R 67, jm_I (g_at w h sl n d), jm_I b] M2 (fun r M3 => ∃ r2 : Int, r = some (jm_I r2) ∧ (0 < r2 → M3 = M2 ∧ k_on w h sl fo ba rn n d se) ∧ (¬ 0 < r2 → M3 = M2 ∧ ¬ k_on w h sl fo ba rn n d se)) := by
                intro b hb
                rw [e_171 b1 b2 (by rw [m4, m5]; exact hbo) (by rw [m80]; omega), m4, m5, m80]
                have hlf : (if b = 0 then ba (g_at w h sl n d) + rn (g_at w h sl n d) else fo (g_at w h sl n d) - rn (g_at w h sl n d)) = k_lf sl fo ba rn (g_at w h sl n d) n := by
                  unfold k_lf
                  by_cases q : g_fr sl (g_at w h sl n d) = n
                  · rw [if_pos q, if_neg (fun r => (hb.1 r) q)]
                  · rw [if_neg q, if_pos (hb.2 q)]
                rw [hlf]
                exact ⟨_, rfl, fun c => ⟨rfl, hon.2 ⟨c, f⟩⟩, fun c => ⟨rfl, fun q => c (hon.1 q).1⟩⟩
              have push : k_on w h sl fo ba rn n d se → (0 : Int) ≤ k_ot w sl (g_at w h sl n d) n ∧ k_ot w sl (g_at w h sl n d) n < 36 ∧ (0 : Int) ≤ 1 ∧ (1 : Int) ≤ 1 ∧ 0 ≤ (rest.length : Int) + 1 ∧ (rest.length : Int) + 1 < 37 := by
                intro ho
                rw [if_pos ho] at s1
                have := k_ok_len hg.1 s1
                dsimp only at this
                rw [List.length_cons, List.length_cons] at this
                exact ⟨hob.1, hob.2, by omega, by omega, by omega, by omega⟩
              have fin : k_on w h sl fo ba rn n d se → ∀ x3 o4 o5 o6 o7, jm_cl 174 [jm_R 67, jm_I (k_ot w sl (g_at w h sl n d) n), jm_I t] (jm_st (jm_st (jm_st (jm_st (jm_st (jm_st M2 89 (k_ot w sl (g_at w h sl n d) n) 1) 85 ((rest.length : Int) + 1) (k_ot w sl (g_at w h sl n d) n)) 86 ((rest.length : Int) + 1) (g_at w h sl n d)) 87 ((rest.length : Int) + 1) ((d + 5) % 8)) 88 ((rest.length : Int) + 1) 0) 67 45 ((rest.length : Int) + 1 + 1)) (fun r M3 => ∃ r3 : Int, r = some (jm_I r3) ∧ (r3 = 0 → jm_run 175 (160, [some (jm_R 67), some (jm_I s), some (jm_I t), some (jm_I x3), some (jm_I o4), o5, o6, o7], [], M3) Q) ∧ (¬ r3 = 0 → (0 : Int) ≤ 1 ∧ (1 : Int) ≤ 1 ∧ Q (some (jm_I 1)) M3)) := by
                intro ho x3 o4 o5 o6 o7
                rw [if_pos ho] at hway s1 s2
                dsimp only at hway s1 s2
                have hf3 : jm_fx [85, 86, 87, 88, 89] [45] M2 (jm_st (jm_st (jm_st (jm_st (jm_st (jm_st M2 89 (k_ot w sl (g_at w h sl n d) n) 1) 85 ((rest.length : Int) + 1) (k_ot w sl (g_at w h sl n d) n)) 86 ((rest.length : Int) + 1) (g_at w h sl n d)) 87 ((rest.length : Int) + 1) ((d + 5) % 8)) 88 ((rest.length : Int) + 1) 0) 67 45 ((rest.length : Int) + 1 + 1)) := jm_fx_tr (jm_fx_tr (jm_fx_tr (jm_fx_tr (jm_fx_tr (jm_fx_st (by decide) (by decide)) (jm_fx_st (by decide) (by decide))) (jm_fx_st (by decide) (by decide))) (jm_fx_st (by decide) (by decide))) (jm_fx_st (by decide) (by decide))) (jm_fx_sx (by decide))
                have hR3 : x_sr ((k_ot w sl (g_at w h sl n d) n, (g_at w h sl n d), (d + 5) % 8, 0) :: (n, e, fi, tr + 1) :: rest) (k_sn se (k_ot w sl (g_at w h sl n d) n)) (jm_st (jm_st (jm_st (jm_st (jm_st (jm_st M2 89 (k_ot w sl (g_at w h sl n d) n) 1) 85 ((rest.length : Int) + 1) (k_ot w sl (g_at w h sl n d) n)) 86 ((rest.length : Int) + 1) (g_at w h sl n d)) 87 ((rest.length : Int) + 1) ((d + 5) % 8)) 88 ((rest.length : Int) + 1) 0) 67 45 ((rest.length : Int) + 1 + 1)) := by
                  refine ⟨?_, ?_, ?_⟩
                  · simp only [jm_st_e, Nat.reduceEqDiff, reduceIte]
                    have hl1 : (((n, e, fi, tr + 1) :: rest).length : Int) = (rest.length : Int) + 1 := by rw [List.length_cons]; omega
                    refine ⟨?_, fun _ => ?_, ?_, ?_, k_rs_cg ?_ hR2.1⟩
                    · rw [hl1, jm_up_s]
                    · rw [hl1, jm_up_s]
                    · rw [hl1, jm_up_s]
                    · rw [hl1, jm_up_s]
                    · intro i i0 i1
                      rw [hl1] at i1
                      rw [jm_up_o (by omega), jm_up_o (by omega), jm_up_o (by omega), jm_up_o (by omega)]
                      exact ⟨rfl, rfl, rfl, rfl⟩
                  · simp only [jm_st_e, reduceIte]
                    rw [jm_up_s, List.length_cons, List.length_cons]
                    omega
                  · intro m m0 m1
                    simp only [jm_st_e, Nat.reduceEqDiff, reduceIte]
                    by_cases q : m = k_ot w sl (g_at w h sl n d) n
                    · rw [q, jm_up_s, jm_Bt (k_sn_s _ _)]
                    · rw [jm_up_o q, hR2.2.2 m m0 m1]
                      unfold k_sn
                      rw [if_neg q]
                rw [e_174 hob.1 hob.2]
                have hwe := hwt _ hot.1
                have m90 : ∀ i, (jm_st (jm_st (jm_st (jm_st (jm_st (jm_st M2 89 (k_ot w sl (g_at w h sl n d) n) 1) 85 ((rest.length : Int) + 1) (k_ot w sl (g_at w h sl n d) n)) 86 ((rest.length : Int) + 1) (g_at w h sl n d)) 87 ((rest.length : Int) + 1) ((d + 5) % 8)) 88 ((rest.length : Int) + 1) 0) 67 45 ((rest.length : Int) + 1 + 1)) 90 i = M 90 i := fun i => by rw [hf3.1 90 (by decide) (by decide), hf2.1 90 (by decide) (by decide)]
                rw [m90, jm_Bc hwe.symm]
                refine ⟨_, rfl, fun z => sg_175_160 ?_, fun z => ⟨by omega, by omega, ?_⟩⟩
                · rw [jm_B0] at z
                  rw [if_neg z] at hway
                  exact ih fu _ _ _ _ _ _ _ _ (by omega) (by omega) hway s1 hR3 (jm_fx_tr hf2 hf3)
                · rw [jm_Bn] at z
                  rw [if_pos z] at hway
                  exact hQ1 _ _ _ hway s1 hR3 (jm_fx_tr hf2 hf3)
              have hd5 : jm_rm (d + 5) 8 = (d + 5) % 8 := jm_rm_e (by omega)
              refine ⟨_, rfl, fun g => ?_, fun g => ?_⟩
              · refine jm_cl_mono (ks 1 ⟨fun q => absurd q (by omega), fun q => absurd g q⟩) ?_
                rintro r M3 ⟨r2, p1, p2, p3⟩
                refine ⟨r2, p1, fun z => ?_, fun z => ?_⟩
                · obtain ⟨rfl, ho⟩ := p2 z
                  obtain ⟨u1, u2, u3, u4, u5, u6⟩ := push ho
                  simp only [jm_st_e, Nat.reduceEqDiff, reduceIte, e45, hd5]
                  exact ⟨u1, u2, u3, u4, u5, u6, u5, u6, ⟨by omega, by omega⟩, by omega, u5, u6, u5, u6, ⟨by omega, by omega⟩, fin ho _ _ _ _ _⟩
                · obtain ⟨rfl, ho⟩ := p3 z
                  exact sg_175_160 (no ho _ _ _ _ _)
              · refine jm_cl_mono (ks 0 ⟨fun _ => g, fun _ => rfl⟩) ?_
                rintro r M3 ⟨r2, p1, p2, p3⟩
                refine ⟨r2, p1, fun z => ?_, fun z => ?_⟩
                · obtain ⟨rfl, ho⟩ := p2 z
                  obtain ⟨u1, u2, u3, u4, u5, u6⟩ := push ho
                  simp only [jm_st_e, Nat.reduceEqDiff, reduceIte, e45, hd5]
                  exact ⟨u1, u2, u3, u4, u5, u6, u5, u6, ⟨by omega, by omega⟩, by omega, u5, u6, u5, u6, ⟨by omega, by omega⟩, fin ho _ _ _ _ _⟩
                · obtain ⟨rfl, ho⟩ := p3 z
                  exact sg_175_160 (no ho _ _ _ _ _)
            · rw [jm_Bn] at f
              rw [(hon.1 q).2] at f
              cases f
  have L0 : ∀ x, x ≤ 36 → 0 ≤ x → ∀ M1 : jm_Mem, jm_fx [85, 86, 87, 88, 89] [45] M M1 → (∀ v, 0 ≤ v → v < x → M1 89 v = 0) → jm_run 175 (2, [some (jm_R 67), some (jm_I s), some (jm_I t), some (jm_I x), none, none, none, none], [], M1) Q := by
    refine jm_dn ?_
    intro x hx ih x0 M1 hf hz
    refine sg_175_2 ⟨fun a => ⟨x0, a, by omega, by omega, ⟨by omega, by omega⟩, ih a (by omega) _ (jm_fx_tr hf (jm_fx_st (by decide) (by decide))) ?_⟩, fun a => ⟨sb.1, sb.2, by omega, by omega, by omega, by omega, by omega, by omega, by omega, by omega, ?_⟩⟩
    · intro v v0 v1
      simp only [jm_st_e, reduceIte]
      by_cases q : v = x
      · rw [q, jm_up_s]
      · rw [jm_up_o q]
        exact hz v v0 (by omega)
    · have hun : k_un (k_0 s).2 = 35 := k_0_un sb.1 sb.2
      have hmu : k_mu (k_0 s).1 (k_0 s).2 = 324 := by
        unfold k_mu
        rw [hun]
        rfl
      refine L 324 326 (k_0 s).1 (k_0 s).2 _ _ _ _ _ _ hmu (by omega) rfl ⟨hs, decide_eq_true rfl, by omega, fun f hf => (by cases hf), fun f hf => (by cases hf), trivial⟩ ⟨?_, ?_, ?_⟩ (jm_fx_tr hf (jm_fx_tr (jm_fx_tr (jm_fx_tr (jm_fx_tr (jm_fx_st (by decide) (by decide)) (jm_fx_st (by decide) (by decide))) (jm_fx_st (by decide) (by decide))) (jm_fx_st (by decide) (by decide))) (jm_fx_sx (by decide))))
      · simp only [jm_st_e, Nat.reduceEqDiff, reduceIte]
        exact ⟨jm_up_s _ _ _, fun q => absurd rfl q, jm_up_s _ _ _, jm_up_s _ _ _, trivial⟩
      · simp only [jm_st_e, reduceIte]
        rw [jm_up_s]
        rfl
      · intro m m0 m1
        simp only [jm_st_e, Nat.reduceEqDiff, reduceIte]
        by_cases q : m = s
        · rw [q, jm_up_s]
          exact (jm_Bt (decide_eq_true rfl)).symm
        · rw [jm_up_o q, hz m m0 (by omega)]
          exact (jm_Bf (by show ¬ decide (m = s) = true; simp [q])).symm
  exact sc_175 (L0 0 (by omega) (by omega) M (jm_fx_rfl _ _ _) (fun v a b => by omega))
end X1
