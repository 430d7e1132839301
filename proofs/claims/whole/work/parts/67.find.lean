/-! THE SEARCH: the class -/
def k_rs (nd ed fi tr : Int → Int) : List k_F → Prop
  | [] => True
  | f :: rest => nd (rest.length : Int) = f.1 ∧ (rest ≠ [] → ed (rest.length : Int) = f.2.1) ∧ fi (rest.length : Int) = f.2.2.1 ∧ tr (rest.length : Int) = f.2.2.2 ∧ k_rs nd ed fi tr rest
theorem k_rs_cg {nd ed fi tr nd' ed' fi' tr' : Int → Int} : ∀ {st : List k_F}, (∀ i, 0 ≤ i → i < (st.length : Int) → nd' i = nd i ∧ ed' i = ed i ∧ fi' i = fi i ∧ tr' i = tr i) → k_rs nd ed fi tr st → k_rs nd' ed' fi' tr' st
  | [], _, _ => trivial
  | f :: rest, hc, h => by
    obtain ⟨h1, h2, h3, h4, h5⟩ := h
    have hl : ((f :: rest).length : Int) = (rest.length : Int) + 1 := by rw [List.length_cons]; omega
    obtain ⟨c1, c2, c3, c4⟩ := hc (rest.length : Int) (by omega) (by omega)
    refine ⟨by rw [c1]; exact h1, fun q => by rw [c2]; exact h2 q, by rw [c3]; exact h3, by rw [c4]; exact h4, ?_⟩
    exact k_rs_cg (fun i a b => hc i a (by omega)) h5
section FS
variable {w h : Int} {sl fo ba rn wt : Int → Int}
theorem e_60_S {M : jm_Mem} {e b : Int} (e0 : 0 ≤ e) (e1 : e < 108) (hbo : g_bo (M 4) (M 5)) (hc : -1000 ≤ M 43 e ∧ M 43 e ≤ 1000) (Q : jm_Q) : jm_cl 60 [jm_R 42, jm_R 1, jm_I e, jm_I b] M Q ↔ Q (some (jm_I (if b = 0 then M 5 e + M 43 e else M 4 e - M 43 e))) M := by
  refine jm_cl_e (fun Q hq => sc_60_S ?_) Q
  obtain ⟨o1, o2, o3, o4, o5⟩ := hbo e
  refine ⟨fun a => ⟨e0, e1, e0, e1, ⟨by omega, by omega⟩, ?_⟩, fun a => ⟨e0, e1, e0, e1, ⟨by omega, by omega⟩, ?_⟩⟩
  · rwa [if_pos a] at hq
  · rwa [if_neg a] at hq
/-- what the class's memory holds of a search -/
def f_rp_S (st : List k_F) (se : Int → Bool) (M : jm_Mem) : Prop := k_rs (M 48) (M 49) (M 50) (M 51) st ∧ M 46 5 = (st.length : Int) - 1 ∧ ∀ n, 0 ≤ n → n < 36 → M 47 n = jm_B (se n = true)
theorem p_52_S {M : jm_Mem} {st : List k_F} {se : Int → Bool} {n e fi : Int} {Q : jm_Q} (n0 : 0 ≤ n) (n1 : n < 36) (hl : st.length < 36) (hR : f_rp_S st se M) (hQ : ∀ M', f_rp_S ((n, e, fi, 0) :: st) (k_sn se n) M' → jm_fr [46, 47, 48, 49, 50, 51] M M' → Q none M') : jm_cl 52 [jm_R 46, jm_I n, jm_I e, jm_I fi] M Q := by
  obtain ⟨r1, r2, r3⟩ := hR
  refine sc_52_Se ?_
  simp only [jm_st_e, Nat.reduceEqDiff, reduceIte, jm_up_s]
  have e1 : M 46 5 + 1 = (st.length : Int) := by omega
  rw [e1]
  refine ⟨⟨by omega, by omega⟩, by omega, by omega, by omega, by omega, by omega, by omega, by omega, by omega, n0, n1, hQ _ ⟨?_, ?_, ?_⟩ ?_⟩
  · simp only [jm_st_e, Nat.reduceEqDiff, reduceIte]
    refine ⟨jm_up_s _ _ _, fun _ => jm_up_s _ _ _, jm_up_s _ _ _, jm_up_s _ _ _, k_rs_cg ?_ r1⟩
    intro i i0 i1
    rw [jm_up_o (by omega), jm_up_o (by omega), jm_up_o (by omega), jm_up_o (by omega)]
    exact ⟨rfl, rfl, rfl, rfl⟩
  · simp only [jm_st_e, Nat.reduceEqDiff, reduceIte]
    rw [jm_up_s, List.length_cons]
    omega
  · intro m m0 m1
    simp only [jm_st_e, Nat.reduceEqDiff, reduceIte]
    by_cases q : m = n
    · rw [q, jm_up_s, jm_Bt (k_sn_s _ _)]
    · rw [jm_up_o q, r3 m m0 m1]
      unfold k_sn
      rw [if_neg q]
  · exact jm_fr_tr (jm_fr_tr (jm_fr_tr (jm_fr_tr (jm_fr_tr (jm_fr_st (by decide)) (jm_fr_st (by decide))) (jm_fr_st (by decide))) (jm_fr_st (by decide))) (jm_fr_st (by decide))) (jm_fr_st (by decide))
theorem p_51_S {M : jm_Mem} {rest : List k_F} {se : Int → Bool} {n e fi tr : Int} {Q : jm_Q} (hg : g_ok w h sl) (hbo : g_bo fo ba) (hT : g_tb w h sl M) (hfo : M 4 = fo) (hba : M 5 = ba) (hrn : ∀ e, g_E w h sl e → M 43 e = rn e ∧ -1000 ≤ rn e ∧ rn e ≤ 1000) (hk : k_ok w h sl fo ba rn ((n, e, fi, tr) :: rest) se) (h8 : tr ≠ 8) (hR : f_rp_S ((n, e, fi, tr) :: rest) se M) (hQ1 : k_on w h sl fo ba rn n ((fi + tr) % 8) se → ∀ M', f_rp_S ((k_ot w sl (g_at w h sl n ((fi + tr) % 8)) n, g_at w h sl n ((fi + tr) % 8), ((fi + tr) % 8 + 5) % 8, 0) :: (n, e, fi, tr + 1) :: rest) (k_sn se (k_ot w sl (g_at w h sl n ((fi + tr) % 8)) n)) M' → jm_fr [46, 47, 48, 49, 50, 51] M M' → Q (some (jm_I 1)) M') (hQ0 : ¬ k_on w h sl fo ba rn n ((fi + tr) % 8) se → ∀ M', f_rp_S ((n, e, fi, tr + 1) :: rest) se M' → jm_fr [46, 47, 48, 49, 50, 51] M M' → Q (some (jm_I 0)) M') : jm_cl 51 [jm_R 46, jm_R 1, jm_R 42] M Q := by
  have hln := k_ok_len hg.1 hk
  rw [List.length_cons] at hln
  have hk' := hk
  obtain ⟨k1, k2, k3, k4, k5, k6⟩ := hk
  obtain ⟨⟨r1, r2, r3, r4, r5⟩, r6, r7⟩ := hR
  have r6 : M 46 5 = (rest.length : Int) := by rw [r6, List.length_cons]; omega
  have nb := g_nb hg.1 k1
  have hd : jm_rm (fi + tr) 8 = (fi + tr) % 8 := jm_rm_e (by omega)
  have hd0 : 0 ≤ (fi + tr) % 8 := by omega
  have hd1 : (fi + tr) % 8 < 8 := by omega
  have m13 := t_at hg hT k1 hd0 hd1
  refine sc_51_Se ?_
  simp only [r6, r1, r3, r4, hd]
  generalize hdd : (fi + tr) % 8 = d at *
  have hM1 : jm_fr [46, 47, 48, 49, 50, 51] M (jm_st M 51 (rest.length : Int) (tr + 1)) := jm_fr_st (by decide)
  have hT1 := g_tb_fr hM1 (by decide) hT
  have hR1 : f_rp_S ((n, e, fi, tr + 1) :: rest) se (jm_st M 51 (rest.length : Int) (tr + 1)) := by
    refine ⟨?_, ?_, ?_⟩
    · simp only [jm_st_e, Nat.reduceEqDiff, reduceIte]
      refine ⟨r1, r2, r3, jm_up_s _ _ _, k_rs_cg ?_ r5⟩
      intro i i0 i1
      rw [jm_up_o (by omega)]
      exact ⟨rfl, rfl, rfl, rfl⟩
    · simp only [jm_st_e, Nat.reduceEqDiff, reduceIte]
      rw [r6, List.length_cons]
      omega
    · intro m m0 m1
      simp only [jm_st_e, Nat.reduceEqDiff, reduceIte]
      exact r7 m m0 m1
  generalize hMM : jm_st M 51 (rest.length : Int) (tr + 1) = M1 at hM1 hT1 hR1
  have n13 : M1 13 (n * 8 + d) = g_at w h sl n d := t_at hg hT1 k1 hd0 hd1
  rw [n13]
  refine ⟨by omega, by omega, by omega, by omega, by omega, by omega, ⟨by omega, by omega⟩, by omega, by omega, by omega, ⟨by omega, by omega⟩, by omega, by omega, ⟨by omega, by omega⟩, ⟨by omega, by omega⟩, by omega, by omega, fun a => ⟨by omega, by omega, hQ0 (fun q => q.1 a) M1 hR1 hM1⟩, fun a => ?_⟩
  rcases g_at_i hg k1 hd0 hd1 with q | ⟨hE, hdir⟩
  · exact absurd q a
  generalize hee : g_at w h sl n d = e' at *
  have kon : k_on w h sl fo ba rn n d se ↔ (e' ≠ -1 ∧ 0 < k_lf sl fo ba rn e' n ∧ se (k_ot w sl e' n) = false) := by
    unfold k_on
    rw [hee]
  obtain ⟨b1, b2, -, -⟩ := g_Eb hg.1 hE
  obtain ⟨t8, -, -, -⟩ := t_E hg.1 hT1 hE
  have m4 : M1 4 = fo := by rw [hM1 4 (by decide)]; exact hfo
  have m5 : M1 5 = ba := by rw [hM1 5 (by decide)]; exact hba
  have m43 : M1 43 e' = rn e' := by rw [hM1 43 (by decide)]; exact (hrn e' hE).1
  have hrb := (hrn e' hE).2
  have hends : g_fr sl e' = n ∨ g_to w sl e' = n := hdir.elim (fun q => Or.inl q.1.symm) (fun q => Or.inr q.1.symm)
  have hot := k_ot_ne hg.1 hE hends
  have hob := g_nb hg.1 hot.1
  have ks : ∀ {P : jm_Mem → Prop} (b : Int), (b = 0 ↔ ¬ g_fr sl e' = n) → jm_cl 60 [jm_R 42, jm_R 1, jm_I e', jm_I b] M1 (fun r M2 => ∃ r1 : Int, r = some (jm_I r1) ∧ (0 < r1 → jm_cl 24 [jm_R 1, jm_I e', jm_I n] M2 (fun r M3 => ∃ r2 : Int, r = some (jm_I r2) ∧ (0 : Int) ≤ r2 ∧ r2 < 36 ∧ ((M3 47 r2) = 0 → jm_in ((M3 46 5) + 1) ∧ (((M3 46 5) + 1) < 36 → jm_in (d + 4) ∧ jm_in ((d + 4) + 1) ∧ (0 : Int) < 8 ∧ jm_cl 52 [jm_R 46, jm_I r2, jm_I e', jm_I (jm_rm ((d + 4) + 1) 8)] M3 (fun r M4 => r = none ∧ (0 : Int) ≤ 1 ∧ (1 : Int) ≤ 1 ∧ Q (some (jm_I 1)) M4)) ∧ (¬ ((M3 46 5) + 1) < 36 → (0 : Int) ≤ 0 ∧ (0 : Int) ≤ 1 ∧ Q (some (jm_I 0)) M3)) ∧ (¬ (M3 47 r2) = 0 → (0 : Int) ≤ 0 ∧ (0 : Int) ≤ 1 ∧ Q (some (jm_I 0)) M3))) ∧ (¬ 0 < r1 → (0 : Int) ≤ 0 ∧ (0 : Int) ≤ 1 ∧ Q (some (jm_I 0)) M2)) := by
    intro P b hb
    rw [e_60_S b1 b2 (by rw [m4, m5]; exact hbo) (by rw [m43]; omega), m4, m5, m43]
    have hlf : (if b = 0 then ba e' + rn e' else fo e' - rn e') = k_lf sl fo ba rn e' n := by
      unfold k_lf
      by_cases q : g_fr sl e' = n
      · rw [if_pos q, if_neg (fun r => (hb.1 r) q)]
      · rw [if_neg q, if_pos (hb.2 q)]
    rw [hlf]
    refine ⟨_, rfl, fun c => ?_, fun c => ⟨by omega, by omega, hQ0 (fun q => c (kon.1 q).2.1) M1 hR1 hM1⟩⟩
    rw [e_24 hg.1 hT1 hE]
    have e7 := hR1.2.2 (k_ot w sl e' n) hob.1 hob.2
    have e6 : M1 46 5 = (rest.length : Int) := by rw [hR1.2.1, List.length_cons]; omega
    refine ⟨k_ot w sl e' n, rfl, hob.1, hob.2, ?_⟩
    rw [e7, e6]
    refine ⟨fun f => ⟨⟨by omega, by omega⟩, fun k => ⟨⟨by omega, by omega⟩, ⟨by omega, by omega⟩, by omega, ?_⟩, fun k => ?_⟩, fun f => ⟨by omega, by omega, hQ0 (fun q => ?_) M1 hR1 hM1⟩⟩
    · rw [jm_B0, Bool.not_eq_true] at f
      rw [jm_rm_e (by omega), show (d + 4 + 1) % 8 = (d + 5) % 8 by omega]
      refine p_52_S hob.1 hob.2 (by rw [List.length_cons]; omega) hR1 ?_
      intro M2 hR2 hf2
      exact ⟨rfl, by omega, by omega, hQ1 (kon.2 ⟨a, c, f⟩) M2 hR2 (jm_fr_tr hM1 hf2)⟩
    · -- one more place always fits
      rw [jm_B0, Bool.not_eq_true] at f
      have hon : k_on w h sl fo ba rn n d se := kon.2 ⟨a, c, f⟩
      have hst := (k_step (wt := fun _ => 0) hg hk' (by simp)).1
      rw [k_nx_c, if_neg h8, hdd, if_pos hon] at hst
      have := k_ok_len hg.1 hst
      rw [List.length_cons, List.length_cons] at this
      omega
    · rw [jm_Bn] at f
      rw [(kon.1 q).2.2] at f
      cases f
  refine ⟨b1, b2, fun c => ?_, fun c => ?_⟩
  · rw [t8] at c
    exact ks (P := fun _ => True) 1 ⟨fun q => absurd q (by omega), fun q => absurd c q⟩
  · rw [t8] at c
    exact ks (P := fun _ => True) 0 ⟨fun _ => c, fun _ => rfl⟩
theorem p_50_S {M : jm_Mem} {s : Int} {Q : jm_Q} (hg : g_ok w h sl) (hbo : g_bo fo ba) (hT : g_tb w h sl M) (hfo : M 4 = fo) (hba : M 5 = ba) (hrn : ∀ e, g_E w h sl e → M 43 e = rn e ∧ -1000 ≤ rn e ∧ rn e ≤ 1000) (hwt : ∀ n, g_nd w h n → M 45 n = wt n) (hs : g_nd w h s) (hQ1 : ∀ st se M', k_way w h sl fo ba rn wt s = some st → k_ok w h sl fo ba rn st se → f_rp_S st se M' → jm_fr [46, 47, 48, 49, 50, 51] M M' → Q (some (jm_I 1)) M') (hQ0 : k_way w h sl fo ba rn wt s = none → ∀ M', jm_fr [46, 47, 48, 49, 50, 51] M M' → Q (some (jm_I 0)) M') : jm_cl 50 [jm_R 46, jm_R 1, jm_R 42, jm_I s] M Q := by
  have sb := g_nb hg.1 hs
  have L : ∀ x, x ≤ 324 → ∀ (fu : Nat) (st : List k_F) (se : Int → Bool) (M1 : jm_Mem), 0 ≤ x → x + k_mu st se = 324 → k_mu st se + 1 < (fu : Int) → k_way w h sl fo ba rn wt s = k_rn w h sl fo ba rn wt fu st se → k_ok w h sl fo ba rn st se → f_rp_S st se M1 → jm_fr [46, 47, 48, 49, 50, 51] M M1 → jm_run 50 (14, [some (jm_R 46), some (jm_R 1), some (jm_R 42), some (jm_I s), some (jm_I x)], [], M1) Q := by
    refine jm_dn ?_
    intro x hx ih fu st se M1 x0 hxm hfu hway hk hR hf
    have hT1 := g_tb_fr hf (by decide) hT
    have hms := k_ms_b hk
    have hR' := hR
    obtain ⟨r1, r2, r3⟩ := hR
    obtain ⟨fu, rfl⟩ : ∃ f', fu = f' + 1 := ⟨fu - 1, by unfold k_mu at hfu; omega⟩
    match st, hk, r1, r2, hxm, hfu, hway, hms, hR' with
    | [], hk, r1, r2, hxm, hfu, hway, hms, hR' =>
      have hn : k_way w h sl fo ba rn wt s = none := hway
      have r2 : M1 46 5 = -1 := r2
      refine sg_50_14_Se ⟨fun a => ⟨fun b => ⟨by omega, by omega, hQ0 hn M1 hf⟩, fun b => by omega⟩, fun a => ⟨by omega, by omega, hQ0 hn M1 hf⟩⟩
    | (n, e, fi, tr) :: rest, hk, r1, r2, hxm, hfu, hway, hms, hR' =>
      have hln := k_ok_len hg.1 hk
      rw [List.length_cons] at hln hms
      have r2 : M1 46 5 = (rest.length : Int) := by rw [r2, List.length_cons]; omega
      obtain ⟨s1, s2⟩ := k_step (wt := wt) hg hk (by simp)
      obtain ⟨q1, q2, q3, q4, q5⟩ := r1
      have hxlt : x < 324 := by
        have : k_mu ((n, e, fi, tr) :: rest) se = k_ms ((n, e, fi, tr) :: rest) + 9 * (k_un se : Int) := rfl
        omega
      have hway : k_way w h sl fo ba rn wt s = match k_nx w h sl fo ba rn wt ((n, e, fi, tr) :: rest) se with
        | (some true, st', _) => some st'
        | (some false, _, _) => none
        | (none, st', se') => k_rn w h sl fo ba rn wt fu st' se' := hway
      rw [k_nx_c] at hway s1 s2
      refine sg_50_14_Se ⟨fun a => ⟨fun b => by omega, fun b => ?_⟩, fun a => absurd hxlt a⟩
      rw [r2, q4]
      refine ⟨by omega, by omega, fun c => ⟨⟨by omega, by omega⟩, ⟨by omega, by omega⟩, ?_⟩, fun c => ?_⟩
      · rw [if_pos c] at hway s1 s2
        dsimp only at hway s1 s2
        refine ih hxlt fu rest se _ (by omega) (by omega) (by omega) hway s1 ⟨?_, ?_, ?_⟩ (jm_fr_tr hf (jm_fr_st (by decide)))
        · simp only [jm_st_e, Nat.reduceEqDiff, reduceIte]
          exact q5
        · simp only [jm_st_e, reduceIte]
          rw [jm_up_s]
        · intro m m0 m1
          simp only [jm_st_e, Nat.reduceEqDiff, reduceIte]
          exact r3 m m0 m1
      · rw [if_neg c] at hway s1 s2
        refine p_51_S hg hbo hT1 (by rw [hf 4 (by decide)]; exact hfo) (by rw [hf 5 (by decide)]; exact hba) (fun e he => by rw [hf 43 (by decide)]; exact hrn e he) hk c hR' ?_ ?_
        · intro ho M2 hR2 hf2
          rw [if_pos ho] at hway s1 s2
          dsimp only at hway s1 s2
          have hot := s1.1
          have hob := g_nb hg.1 hot
          have hln2 := k_ok_len hg.1 s1
          rw [List.length_cons, List.length_cons] at hln2
          have e46 : M2 46 5 = (rest.length : Int) + 1 := by rw [hR2.2.1, List.length_cons, List.length_cons]; omega
          have e48 : M2 48 ((rest.length : Int) + 1) = k_ot w sl (g_at w h sl n ((fi + tr) % 8)) n := by
            have := hR2.1.1
            rw [List.length_cons] at this
            rw [show (rest.length : Int) + 1 = ((rest.length + 1 : Nat) : Int) by omega]
            exact this
          have hfM := jm_fr_tr hf hf2
          have e45 : M2 45 (k_ot w sl (g_at w h sl n ((fi + tr) % 8)) n) = wt (k_ot w sl (g_at w h sl n ((fi + tr) % 8)) n) := by rw [hfM 45 (by decide)]; exact hwt _ hot
          refine ⟨1, rfl, fun q => absurd q (by omega), fun _ => ?_⟩
          rw [e46, e48, e45]
          refine ⟨by omega, by omega, hob.1, hob.2, fun k => ⟨by omega, by omega, ?_⟩, fun k => ⟨⟨by omega, by omega⟩, ?_⟩⟩
          · rw [if_pos k] at hway
            exact hQ1 _ _ M2 hway s1 hR2 hfM
          · rw [if_neg k] at hway
            exact ih hxlt fu _ _ M2 (by omega) (by omega) (by omega) hway s1 hR2 hfM
        · intro ho M2 hR2 hf2
          rw [if_neg ho] at hway s1 s2
          dsimp only at hway s1 s2
          exact ⟨0, rfl, fun _ => ⟨⟨by omega, by omega⟩, ih hxlt fu _ _ M2 (by omega) (by omega) (by omega) hway s1 hR2 (jm_fr_tr hf hf2)⟩, fun q => absurd rfl q⟩
  refine sc_50_Se ?_
  refine jm_fill (n := 36) (l := []) rfl rfl (by decide) ⟨rfl, ?_⟩
  have hf0 : jm_fr [46, 47, 48, 49, 50, 51] M (jm_st (jm_sr M 47 (jm_fl ((36 : Nat) : Int) 0 (M 47))) 46 5 (-1)) := jm_fr_tr (jm_fr_sr (by decide)) (jm_fr_st (by decide))
  refine p_52_S (st := []) (se := fun _ => false) sb.1 sb.2 (by decide) ⟨trivial, ?_, ?_⟩ ?_
  · simp only [jm_st_e, reduceIte]
    rw [jm_up_s]
    rfl
  · intro m m0 m1
    simp only [jm_st_e, jm_sr_e, Nat.reduceEqDiff, reduceIte]
    exact if_pos (by omega)
  · intro M2 hR2 hf2
    have hse : k_sn (fun _ => false) s = (k_0 s).2 := by
      funext m
      unfold k_sn k_0
      by_cases q : m = s
      · rw [if_pos q]
        exact (decide_eq_true q).symm
      · rw [if_neg q]
        exact (decide_eq_false q).symm
    rw [hse] at hR2
    have hun : k_un (k_0 s).2 = 35 := k_0_un sb.1 sb.2
    have hmu : k_mu (k_0 s).1 (k_0 s).2 = 324 := by
      unfold k_mu
      rw [hun]
      rfl
    refine ⟨rfl, L 0 (by omega) 326 (k_0 s).1 (k_0 s).2 M2 (by omega) (by omega) (by omega) rfl ⟨hs, decide_eq_true rfl, by omega, fun f hf => (by cases hf), fun f hf => (by cases hf), trivial⟩ hR2 (jm_fr_tr hf0 hf2)⟩
end FS
section FU
variable {w h : Int} {sl fo ba rn wt : Int → Int}
theorem e_60_U {M : jm_Mem} {e b : Int} (e0 : 0 ≤ e) (e1 : e < 108) (hbo : g_bo (M 4) (M 5)) (hc : -1000 ≤ M 53 e ∧ M 53 e ≤ 1000) (Q : jm_Q) : jm_cl 60 [jm_R 52, jm_R 1, jm_I e, jm_I b] M Q ↔ Q (some (jm_I (if b = 0 then M 5 e + M 53 e else M 4 e - M 53 e))) M := by
  refine jm_cl_e (fun Q hq => sc_60_U ?_) Q
  obtain ⟨o1, o2, o3, o4, o5⟩ := hbo e
  refine ⟨fun a => ⟨e0, e1, e0, e1, ⟨by omega, by omega⟩, ?_⟩, fun a => ⟨e0, e1, e0, e1, ⟨by omega, by omega⟩, ?_⟩⟩
  · rwa [if_pos a] at hq
  · rwa [if_neg a] at hq
/-- what the class's memory holds of a search -/
def f_rp_U (st : List k_F) (se : Int → Bool) (M : jm_Mem) : Prop := k_rs (M 58) (M 59) (M 60) (M 61) st ∧ M 56 5 = (st.length : Int) - 1 ∧ ∀ n, 0 ≤ n → n < 36 → M 57 n = jm_B (se n = true)
theorem p_52_U {M : jm_Mem} {st : List k_F} {se : Int → Bool} {n e fi : Int} {Q : jm_Q} (n0 : 0 ≤ n) (n1 : n < 36) (hl : st.length < 36) (hR : f_rp_U st se M) (hQ : ∀ M', f_rp_U ((n, e, fi, 0) :: st) (k_sn se n) M' → jm_fr [56, 57, 58, 59, 60, 61] M M' → Q none M') : jm_cl 52 [jm_R 56, jm_I n, jm_I e, jm_I fi] M Q := by
  obtain ⟨r1, r2, r3⟩ := hR
  refine sc_52_Ue ?_
  simp only [jm_st_e, Nat.reduceEqDiff, reduceIte, jm_up_s]
  have e1 : M 56 5 + 1 = (st.length : Int) := by omega
  rw [e1]
  refine ⟨⟨by omega, by omega⟩, by omega, by omega, by omega, by omega, by omega, by omega, by omega, by omega, n0, n1, hQ _ ⟨?_, ?_, ?_⟩ ?_⟩
  · simp only [jm_st_e, Nat.reduceEqDiff, reduceIte]
    refine ⟨jm_up_s _ _ _, fun _ => jm_up_s _ _ _, jm_up_s _ _ _, jm_up_s _ _ _, k_rs_cg ?_ r1⟩
    intro i i0 i1
    rw [jm_up_o (by omega), jm_up_o (by omega), jm_up_o (by omega), jm_up_o (by omega)]
    exact ⟨rfl, rfl, rfl, rfl⟩
  · simp only [jm_st_e, Nat.reduceEqDiff, reduceIte]
    rw [jm_up_s, List.length_cons]
    omega
  · intro m m0 m1
    simp only [jm_st_e, Nat.reduceEqDiff, reduceIte]
    by_cases q : m = n
    · rw [q, jm_up_s, jm_Bt (k_sn_s _ _)]
    · rw [jm_up_o q, r3 m m0 m1]
      unfold k_sn
      rw [if_neg q]
  · exact jm_fr_tr (jm_fr_tr (jm_fr_tr (jm_fr_tr (jm_fr_tr (jm_fr_st (by decide)) (jm_fr_st (by decide))) (jm_fr_st (by decide))) (jm_fr_st (by decide))) (jm_fr_st (by decide))) (jm_fr_st (by decide))
theorem p_51_U {M : jm_Mem} {rest : List k_F} {se : Int → Bool} {n e fi tr : Int} {Q : jm_Q} (hg : g_ok w h sl) (hbo : g_bo fo ba) (hT : g_tb w h sl M) (hfo : M 4 = fo) (hba : M 5 = ba) (hrn : ∀ e, g_E w h sl e → M 53 e = rn e ∧ -1000 ≤ rn e ∧ rn e ≤ 1000) (hk : k_ok w h sl fo ba rn ((n, e, fi, tr) :: rest) se) (h8 : tr ≠ 8) (hR : f_rp_U ((n, e, fi, tr) :: rest) se M) (hQ1 : k_on w h sl fo ba rn n ((fi + tr) % 8) se → ∀ M', f_rp_U ((k_ot w sl (g_at w h sl n ((fi + tr) % 8)) n, g_at w h sl n ((fi + tr) % 8), ((fi + tr) % 8 + 5) % 8, 0) :: (n, e, fi, tr + 1) :: rest) (k_sn se (k_ot w sl (g_at w h sl n ((fi + tr) % 8)) n)) M' → jm_fr [56, 57, 58, 59, 60, 61] M M' → Q (some (jm_I 1)) M') (hQ0 : ¬ k_on w h sl fo ba rn n ((fi + tr) % 8) se → ∀ M', f_rp_U ((n, e, fi, tr + 1) :: rest) se M' → jm_fr [56, 57, 58, 59, 60, 61] M M' → Q (some (jm_I 0)) M') : jm_cl 51 [jm_R 56, jm_R 1, jm_R 52] M Q := by
  have hln := k_ok_len hg.1 hk
  rw [List.length_cons] at hln
  have hk' := hk
  obtain ⟨k1, k2, k3, k4, k5, k6⟩ := hk
  obtain ⟨⟨r1, r2, r3, r4, r5⟩, r6, r7⟩ := hR
  have r6 : M 56 5 = (rest.length : Int) := by rw [r6, List.length_cons]; omega
  have nb := g_nb hg.1 k1
  have hd : jm_rm (fi + tr) 8 = (fi + tr) % 8 := jm_rm_e (by omega)
  have hd0 : 0 ≤ (fi + tr) % 8 := by omega
  have hd1 : (fi + tr) % 8 < 8 := by omega
  have m13 := t_at hg hT k1 hd0 hd1
  refine sc_51_Ue ?_
  simp only [r6, r1, r3, r4, hd]
  generalize hdd : (fi + tr) % 8 = d at *
  have hM1 : jm_fr [56, 57, 58, 59, 60, 61] M (jm_st M 61 (rest.length : Int) (tr + 1)) := jm_fr_st (by decide)
  have hT1 := g_tb_fr hM1 (by decide) hT
  have hR1 : f_rp_U ((n, e, fi, tr + 1) :: rest) se (jm_st M 61 (rest.length : Int) (tr + 1)) := by
    refine ⟨?_, ?_, ?_⟩
    · simp only [jm_st_e, Nat.reduceEqDiff, reduceIte]
      refine ⟨r1, r2, r3, jm_up_s _ _ _, k_rs_cg ?_ r5⟩
      intro i i0 i1
      rw [jm_up_o (by omega)]
      exact ⟨rfl, rfl, rfl, rfl⟩
    · simp only [jm_st_e, Nat.reduceEqDiff, reduceIte]
      rw [r6, List.length_cons]
      omega
    · intro m m0 m1
      simp only [jm_st_e, Nat.reduceEqDiff, reduceIte]
      exact r7 m m0 m1
  generalize hMM : jm_st M 61 (rest.length : Int) (tr + 1) = M1 at hM1 hT1 hR1
  have n13 : M1 13 (n * 8 + d) = g_at w h sl n d := t_at hg hT1 k1 hd0 hd1
  rw [n13]
  refine ⟨by omega, by omega, by omega, by omega, by omega, by omega, ⟨by omega, by omega⟩, by omega, by omega, by omega, ⟨by omega, by omega⟩, by omega, by omega, ⟨by omega, by omega⟩, ⟨by omega, by omega⟩, by omega, by omega, fun a => ⟨by omega, by omega, hQ0 (fun q => q.1 a) M1 hR1 hM1⟩, fun a => ?_⟩
  rcases g_at_i hg k1 hd0 hd1 with q | ⟨hE, hdir⟩
  · exact absurd q a
  generalize hee : g_at w h sl n d = e' at *
  have kon : k_on w h sl fo ba rn n d se ↔ (e' ≠ -1 ∧ 0 < k_lf sl fo ba rn e' n ∧ se (k_ot w sl e' n) = false) := by
    unfold k_on
    rw [hee]
  obtain ⟨b1, b2, -, -⟩ := g_Eb hg.1 hE
  obtain ⟨t8, -, -, -⟩ := t_E hg.1 hT1 hE
  have m4 : M1 4 = fo := by rw [hM1 4 (by decide)]; exact hfo
  have m5 : M1 5 = ba := by rw [hM1 5 (by decide)]; exact hba
  have m43 : M1 53 e' = rn e' := by rw [hM1 53 (by decide)]; exact (hrn e' hE).1
  have hrb := (hrn e' hE).2
  have hends : g_fr sl e' = n ∨ g_to w sl e' = n := hdir.elim (fun q => Or.inl q.1.symm) (fun q => Or.inr q.1.symm)
  have hot := k_ot_ne hg.1 hE hends
  have hob := g_nb hg.1 hot.1
  have ks : ∀ {P : jm_Mem → Prop} (b : Int), (b = 0 ↔ ¬ g_fr sl e' = n) → jm_cl 60 [jm_R 52, jm_R 1, jm_I e', jm_I b] M1 (fun r M2 => ∃ r1 : Int, r = some (jm_I r1) ∧ (0 < r1 → jm_cl 24 [jm_R 1, jm_I e', jm_I n] M2 (fun r M3 => ∃ r2 : Int, r = some (jm_I r2) ∧ (0 : Int) ≤ r2 ∧ r2 < 36 ∧ ((M3 57 r2) = 0 → jm_in ((M3 56 5) + 1) ∧ (((M3 56 5) + 1) < 36 → jm_in (d + 4) ∧ jm_in ((d + 4) + 1) ∧ (0 : Int) < 8 ∧ jm_cl 52 [jm_R 56, jm_I r2, jm_I e', jm_I (jm_rm ((d + 4) + 1) 8)] M3 (fun r M4 => r = none ∧ (0 : Int) ≤ 1 ∧ (1 : Int) ≤ 1 ∧ Q (some (jm_I 1)) M4)) ∧ (¬ ((M3 56 5) + 1) < 36 → (0 : Int) ≤ 0 ∧ (0 : Int) ≤ 1 ∧ Q (some (jm_I 0)) M3)) ∧ (¬ (M3 57 r2) = 0 → (0 : Int) ≤ 0 ∧ (0 : Int) ≤ 1 ∧ Q (some (jm_I 0)) M3))) ∧ (¬ 0 < r1 → (0 : Int) ≤ 0 ∧ (0 : Int) ≤ 1 ∧ Q (some (jm_I 0)) M2)) := by
    intro P b hb
    rw [e_60_U b1 b2 (by rw [m4, m5]; exact hbo) (by rw [m43]; omega), m4, m5, m43]
    have hlf : (if b = 0 then ba e' + rn e' else fo e' - rn e') = k_lf sl fo ba rn e' n := by
      unfold k_lf
      by_cases q : g_fr sl e' = n
      · rw [if_pos q, if_neg (fun r => (hb.1 r) q)]
      · rw [if_neg q, if_pos (hb.2 q)]
    rw [hlf]
    refine ⟨_, rfl, fun c => ?_, fun c => ⟨by omega, by omega, hQ0 (fun q => c (kon.1 q).2.1) M1 hR1 hM1⟩⟩
    rw [e_24 hg.1 hT1 hE]
    have e7 := hR1.2.2 (k_ot w sl e' n) hob.1 hob.2
    have e6 : M1 56 5 = (rest.length : Int) := by rw [hR1.2.1, List.length_cons]; omega
    refine ⟨k_ot w sl e' n, rfl, hob.1, hob.2, ?_⟩
    rw [e7, e6]
    refine ⟨fun f => ⟨⟨by omega, by omega⟩, fun k => ⟨⟨by omega, by omega⟩, ⟨by omega, by omega⟩, by omega, ?_⟩, fun k => ?_⟩, fun f => ⟨by omega, by omega, hQ0 (fun q => ?_) M1 hR1 hM1⟩⟩
    · rw [jm_B0, Bool.not_eq_true] at f
      rw [jm_rm_e (by omega), show (d + 4 + 1) % 8 = (d + 5) % 8 by omega]
      refine p_52_U hob.1 hob.2 (by rw [List.length_cons]; omega) hR1 ?_
      intro M2 hR2 hf2
      exact ⟨rfl, by omega, by omega, hQ1 (kon.2 ⟨a, c, f⟩) M2 hR2 (jm_fr_tr hM1 hf2)⟩
    · -- one more place always fits
      rw [jm_B0, Bool.not_eq_true] at f
      have hon : k_on w h sl fo ba rn n d se := kon.2 ⟨a, c, f⟩
      have hst := (k_step (wt := fun _ => 0) hg hk' (by simp)).1
      rw [k_nx_c, if_neg h8, hdd, if_pos hon] at hst
      have := k_ok_len hg.1 hst
      rw [List.length_cons, List.length_cons] at this
      omega
    · rw [jm_Bn] at f
      rw [(kon.1 q).2.2] at f
      cases f
  refine ⟨b1, b2, fun c => ?_, fun c => ?_⟩
  · rw [t8] at c
    exact ks (P := fun _ => True) 1 ⟨fun q => absurd q (by omega), fun q => absurd c q⟩
  · rw [t8] at c
    exact ks (P := fun _ => True) 0 ⟨fun _ => c, fun _ => rfl⟩
theorem p_50_U {M : jm_Mem} {s : Int} {Q : jm_Q} (hg : g_ok w h sl) (hbo : g_bo fo ba) (hT : g_tb w h sl M) (hfo : M 4 = fo) (hba : M 5 = ba) (hrn : ∀ e, g_E w h sl e → M 53 e = rn e ∧ -1000 ≤ rn e ∧ rn e ≤ 1000) (hwt : ∀ n, g_nd w h n → M 55 n = wt n) (hs : g_nd w h s) (hQ1 : ∀ st se M', k_way w h sl fo ba rn wt s = some st → k_ok w h sl fo ba rn st se → f_rp_U st se M' → jm_fr [56, 57, 58, 59, 60, 61] M M' → Q (some (jm_I 1)) M') (hQ0 : k_way w h sl fo ba rn wt s = none → ∀ M', jm_fr [56, 57, 58, 59, 60, 61] M M' → Q (some (jm_I 0)) M') : jm_cl 50 [jm_R 56, jm_R 1, jm_R 52, jm_I s] M Q := by
  have sb := g_nb hg.1 hs
  have L : ∀ x, x ≤ 324 → ∀ (fu : Nat) (st : List k_F) (se : Int → Bool) (M1 : jm_Mem), 0 ≤ x → x + k_mu st se = 324 → k_mu st se + 1 < (fu : Int) → k_way w h sl fo ba rn wt s = k_rn w h sl fo ba rn wt fu st se → k_ok w h sl fo ba rn st se → f_rp_U st se M1 → jm_fr [56, 57, 58, 59, 60, 61] M M1 → jm_run 50 (14, [some (jm_R 56), some (jm_R 1), some (jm_R 52), some (jm_I s), some (jm_I x)], [], M1) Q := by
    refine jm_dn ?_
    intro x hx ih fu st se M1 x0 hxm hfu hway hk hR hf
    have hT1 := g_tb_fr hf (by decide) hT
    have hms := k_ms_b hk
    have hR' := hR
    obtain ⟨r1, r2, r3⟩ := hR
    obtain ⟨fu, rfl⟩ : ∃ f', fu = f' + 1 := ⟨fu - 1, by unfold k_mu at hfu; omega⟩
    match st, hk, r1, r2, hxm, hfu, hway, hms, hR' with
    | [], hk, r1, r2, hxm, hfu, hway, hms, hR' =>
      have hn : k_way w h sl fo ba rn wt s = none := hway
      have r2 : M1 56 5 = -1 := r2
      refine sg_50_14_Ue ⟨fun a => ⟨fun b => ⟨by omega, by omega, hQ0 hn M1 hf⟩, fun b => by omega⟩, fun a => ⟨by omega, by omega, hQ0 hn M1 hf⟩⟩
    | (n, e, fi, tr) :: rest, hk, r1, r2, hxm, hfu, hway, hms, hR' =>
      have hln := k_ok_len hg.1 hk
      rw [List.length_cons] at hln hms
      have r2 : M1 56 5 = (rest.length : Int) := by rw [r2, List.length_cons]; omega
      obtain ⟨s1, s2⟩ := k_step (wt := wt) hg hk (by simp)
      obtain ⟨q1, q2, q3, q4, q5⟩ := r1
      have hxlt : x < 324 := by
        have : k_mu ((n, e, fi, tr) :: rest) se = k_ms ((n, e, fi, tr) :: rest) + 9 * (k_un se : Int) := rfl
        omega
      have hway : k_way w h sl fo ba rn wt s = match k_nx w h sl fo ba rn wt ((n, e, fi, tr) :: rest) se with
        | (some true, st', _) => some st'
        | (some false, _, _) => none
        | (none, st', se') => k_rn w h sl fo ba rn wt fu st' se' := hway
      rw [k_nx_c] at hway s1 s2
      refine sg_50_14_Ue ⟨fun a => ⟨fun b => by omega, fun b => ?_⟩, fun a => absurd hxlt a⟩
      rw [r2, q4]
      refine ⟨by omega, by omega, fun c => ⟨⟨by omega, by omega⟩, ⟨by omega, by omega⟩, ?_⟩, fun c => ?_⟩
      · rw [if_pos c] at hway s1 s2
        dsimp only at hway s1 s2
        refine ih hxlt fu rest se _ (by omega) (by omega) (by omega) hway s1 ⟨?_, ?_, ?_⟩ (jm_fr_tr hf (jm_fr_st (by decide)))
        · simp only [jm_st_e, Nat.reduceEqDiff, reduceIte]
          exact q5
        · simp only [jm_st_e, reduceIte]
          rw [jm_up_s]
        · intro m m0 m1
          simp only [jm_st_e, Nat.reduceEqDiff, reduceIte]
          exact r3 m m0 m1
      · rw [if_neg c] at hway s1 s2
        refine p_51_U hg hbo hT1 (by rw [hf 4 (by decide)]; exact hfo) (by rw [hf 5 (by decide)]; exact hba) (fun e he => by rw [hf 53 (by decide)]; exact hrn e he) hk c hR' ?_ ?_
        · intro ho M2 hR2 hf2
          rw [if_pos ho] at hway s1 s2
          dsimp only at hway s1 s2
          have hot := s1.1
          have hob := g_nb hg.1 hot
          have hln2 := k_ok_len hg.1 s1
          rw [List.length_cons, List.length_cons] at hln2
          have e46 : M2 56 5 = (rest.length : Int) + 1 := by rw [hR2.2.1, List.length_cons, List.length_cons]; omega
          have e48 : M2 58 ((rest.length : Int) + 1) = k_ot w sl (g_at w h sl n ((fi + tr) % 8)) n := by
            have := hR2.1.1
            rw [List.length_cons] at this
            rw [show (rest.length : Int) + 1 = ((rest.length + 1 : Nat) : Int) by omega]
            exact this
          have hfM := jm_fr_tr hf hf2
          have e45 : M2 55 (k_ot w sl (g_at w h sl n ((fi + tr) % 8)) n) = wt (k_ot w sl (g_at w h sl n ((fi + tr) % 8)) n) := by rw [hfM 55 (by decide)]; exact hwt _ hot
          refine ⟨1, rfl, fun q => absurd q (by omega), fun _ => ?_⟩
          rw [e46, e48, e45]
          refine ⟨by omega, by omega, hob.1, hob.2, fun k => ⟨by omega, by omega, ?_⟩, fun k => ⟨⟨by omega, by omega⟩, ?_⟩⟩
          · rw [if_pos k] at hway
            exact hQ1 _ _ M2 hway s1 hR2 hfM
          · rw [if_neg k] at hway
            exact ih hxlt fu _ _ M2 (by omega) (by omega) (by omega) hway s1 hR2 hfM
        · intro ho M2 hR2 hf2
          rw [if_neg ho] at hway s1 s2
          dsimp only at hway s1 s2
          exact ⟨0, rfl, fun _ => ⟨⟨by omega, by omega⟩, ih hxlt fu _ _ M2 (by omega) (by omega) (by omega) hway s1 hR2 (jm_fr_tr hf hf2)⟩, fun q => absurd rfl q⟩
  refine sc_50_Ue ?_
  refine jm_fill (n := 36) (l := []) rfl rfl (by decide) ⟨rfl, ?_⟩
  have hf0 : jm_fr [56, 57, 58, 59, 60, 61] M (jm_st (jm_sr M 57 (jm_fl ((36 : Nat) : Int) 0 (M 57))) 56 5 (-1)) := jm_fr_tr (jm_fr_sr (by decide)) (jm_fr_st (by decide))
  refine p_52_U (st := []) (se := fun _ => false) sb.1 sb.2 (by decide) ⟨trivial, ?_, ?_⟩ ?_
  · simp only [jm_st_e, reduceIte]
    rw [jm_up_s]
    rfl
  · intro m m0 m1
    simp only [jm_st_e, jm_sr_e, Nat.reduceEqDiff, reduceIte]
    exact if_pos (by omega)
  · intro M2 hR2 hf2
    have hse : k_sn (fun _ => false) s = (k_0 s).2 := by
      funext m
      unfold k_sn k_0
      by_cases q : m = s
      · rw [if_pos q]
        exact (decide_eq_true q).symm
      · rw [if_neg q]
        exact (decide_eq_false q).symm
    rw [hse] at hR2
    have hun : k_un (k_0 s).2 = 35 := k_0_un sb.1 sb.2
    have hmu : k_mu (k_0 s).1 (k_0 s).2 = 324 := by
      unfold k_mu
      rw [hun]
      rfl
    refine ⟨rfl, L 0 (by omega) 326 (k_0 s).1 (k_0 s).2 M2 (by omega) (by omega) (by omega) rfl ⟨hs, decide_eq_true rfl, by omega, fun f hf => (by cases hf), fun f hf => (by cases hf), trivial⟩ hR2 (jm_fr_tr hf0 hf2)⟩
end FU
