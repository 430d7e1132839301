/-! class and reference side by side -/
def z_W (w h : Int) (sl : Int → Int) (M : jm_Mem) : Prop := (M 42 4 = 0 ∧ M 67 33 = 0) ∨ ((1 ≤ M 42 4 ∧ M 42 4 ≤ 3) ∧ M 67 33 = 1 ∧ (∀ e, g_E w h sl e → M 81 e = M 43 e ∧ -1000 ≤ M 43 e ∧ M 43 e ≤ 1000) ∧ (M 82 3 = M 42 5 ∧ M 82 4 = M 42 6 ∧ M 82 0 = M 42 7 ∧ M 82 1 = M 42 8 ∧ M 82 2 = M 42 9) ∧ (M 42 4 = 1 → g_nd w h (M 42 5) ∧ g_nd w h (M 42 6)) ∧ (M 42 4 ≠ 1 → M 42 5 = -1 ∧ ∀ n, g_nd w h n → M 84 n = M 44 n))
def z_ri (a : Int) (w h : Int) (sl fo ba su : Int → Int) (M : jm_Mem) : Prop := M 93 a = w ∧ M 93 (a + 1) = h ∧ (∀ v, 0 ≤ v → v < 36 → M 93 (a + 2 + v) = sl v ∧ M 93 (a + 38 + v) = su v) ∧ ∀ e, 0 ≤ e → e < 108 → M 93 (a + 74 + e) = fo e ∧ M 93 (a + 182 + e) = ba e
def z_im (a : Int) (c : Nat) (M : jm_Mem) : Prop := ∃ (w h : Int) (sl fo ba su : Int → Int), z_g w h sl fo ba su ∧ z_td c w h sl fo ba su M ∧ z_ri a w h sl fo ba su M
def z_I (M : jm_Mem) : Prop := (M 22 0 = 0 ∨ M 22 0 = 1) ∧ (M 22 1 = 0 ∨ M 22 1 = 1) ∧ M 67 51 = M 22 0 + 2 * M 22 1 ∧ (M 22 0 = 1 → z_im 0 23 M) ∧ (M 22 1 = 1 → z_im 290 28 M)
def z_T (M : jm_Mem) : Prop := 0 ≤ M 65 1 ∧ M 65 1 ≤ 600 ∧ M 67 8 = M 65 1 ∧ l_by (M 66) ∧ ∀ v, 0 ≤ v → v < M 65 1 → M 72 v = M 66 v
def z_S (w h : Int) (sl fo ba su : Int → Int) (M : jm_Mem) : Prop := z_g w h sl fo ba su ∧ z_C w h sl fo ba su M ∧ z_R w h sl fo ba su M ∧ z_W w h sl M ∧ z_I M ∧ z_T M ∧ y_tb M
def z_Sm (M : jm_Mem) : Prop := ∃ (w h : Int) (sl fo ba su : Int → Int), z_S w h sl fo ba su M
/-- cells of which z_S speaks -/
abbrev z_rel : List Nat := [1, 2, 3, 4, 5, 6, 7, 8, 9, 10, 11, 12, 13, 14, 15, 22, 23, 24, 25, 26, 27, 28, 29, 30, 31, 32, 42, 43, 44, 65, 66, 68, 69, 70, 71, 72, 73, 81, 82, 84, 93]
abbrev z_pl : List Int := [1, 2, 8, 20, 33, 51]
abbrev z_eq (M M' : jm_Mem) : Prop := (∀ c ∈ z_rel, M' c = M c) ∧ ∀ i ∈ z_pl, M' 67 i = M 67 i
theorem z_td_eq {c : Nat} {w h : Int} {sl fo ba su : Int → Int} {M M' : jm_Mem} (h0 : M' c = M c) (h1 : M' (c + 1) = M (c + 1)) (h2 : M' (c + 2) = M (c + 2)) (h3 : M' (c + 3) = M (c + 3)) (h4 : M' (c + 4) = M (c + 4)) (hH : z_td c w h sl fo ba su M) : z_td c w h sl fo ba su M' := by
  unfold z_td at hH ⊢
  rw [h0, h1, h2, h3, h4]
  exact hH
theorem z_im_eq {a : Int} {c : Nat} {M M' : jm_Mem} (h0 : M' c = M c) (h1 : M' (c + 1) = M (c + 1)) (h2 : M' (c + 2) = M (c + 2)) (h3 : M' (c + 3) = M (c + 3)) (h4 : M' (c + 4) = M (c + 4)) (h9 : M' 93 = M 93) (h : z_im a c M) : z_im a c M' := by
  obtain ⟨w, hh, sl, fo, ba, su, k1, k2, k3⟩ := h
  refine ⟨w, hh, sl, fo, ba, su, k1, z_td_eq h0 h1 h2 h3 h4 k2, ?_⟩
  unfold z_ri at k3 ⊢
  rw [h9]
  exact k3
theorem z_R_eq {w h : Int} {sl fo ba su : Int → Int} {M M' : jm_Mem} (e : z_eq M M') (hH : z_R w h sl fo ba su M) : z_R w h sl fo ba su M' := by
  unfold z_R r_X at hH ⊢
  rw [e.2 1 (by decide), e.2 2 (by decide), e.1 68 (by decide), e.1 69 (by decide), e.1 70 (by decide), e.1 71 (by decide)]
  exact hH
theorem z_C_eq {w h : Int} {sl fo ba su : Int → Int} {M M' : jm_Mem} (e : z_eq M M') (hH : z_C w h sl fo ba su M) : z_C w h sl fo ba su M' := by
  obtain ⟨h1, h2, h3, h4⟩ := hH
  refine ⟨?_, ?_, ?_, ?_⟩
  · unfold g_tb g_pl at h1 ⊢
    rw [e.1 1 (by decide), e.1 2 (by decide), e.1 3 (by decide), e.1 14 (by decide), e.1 15 (by decide), e.1 7 (by decide), e.1 8 (by decide), e.1 9 (by decide), e.1 10 (by decide), e.1 11 (by decide), e.1 12 (by decide), e.1 13 (by decide)]
    exact h1
  · rw [e.1 4 (by decide)]; exact h2
  · rw [e.1 5 (by decide)]; exact h3
  · rw [e.1 6 (by decide)]; exact h4
theorem z_W_eq {w h : Int} {sl : Int → Int} {M M' : jm_Mem} (e : z_eq M M') (hH : z_W w h sl M) : z_W w h sl M' := by
  unfold z_W at hH ⊢
  rw [e.2 33 (by decide), e.1 42 (by decide), e.1 43 (by decide), e.1 44 (by decide), e.1 81 (by decide), e.1 82 (by decide), e.1 84 (by decide)]
  exact hH
theorem z_I_eq {M M' : jm_Mem} (e : z_eq M M') (h : z_I M) : z_I M' := by
  unfold z_I at h ⊢
  rw [e.2 51 (by decide), e.1 22 (by decide)]
  exact ⟨h.1, h.2.1, h.2.2.1, fun q => z_im_eq (e.1 23 (by decide)) (e.1 24 (by decide)) (e.1 25 (by decide)) (e.1 26 (by decide)) (e.1 27 (by decide)) (e.1 93 (by decide)) (h.2.2.2.1 q), fun q => z_im_eq (e.1 28 (by decide)) (e.1 29 (by decide)) (e.1 30 (by decide)) (e.1 31 (by decide)) (e.1 32 (by decide)) (e.1 93 (by decide)) (h.2.2.2.2 q)⟩
theorem z_T_eq {M M' : jm_Mem} (e : z_eq M M') (h : z_T M) : z_T M' := by
  unfold z_T at h ⊢
  rw [e.2 8 (by decide), e.1 65 (by decide), e.1 66 (by decide), e.1 72 (by decide)]
  exact h
theorem z_tb_eq {M M' : jm_Mem} (e : z_eq M M') (h : y_tb M) : y_tb M' := by
  unfold y_tb at h ⊢
  rw [e.2 20 (by decide), e.1 73 (by decide)]
  exact h
theorem z_S_eq {w h : Int} {sl fo ba su : Int → Int} {M M' : jm_Mem} (e : z_eq M M') (hH : z_S w h sl fo ba su M) : z_S w h sl fo ba su M' := ⟨hH.1, z_C_eq e hH.2.1, z_R_eq e hH.2.2.1, z_W_eq e hH.2.2.2.1, z_I_eq e hH.2.2.2.2.1, z_T_eq e hH.2.2.2.2.2.1, z_tb_eq e hH.2.2.2.2.2.2⟩
theorem z_eq_fr {cs : List Nat} {M M' : jm_Mem} (hf : jm_fr cs M M') (h1 : ∀ c ∈ cs, c ∉ z_rel) (h2 : 67 ∉ cs) : z_eq M M' := ⟨fun c hc => hf c (fun q => h1 c q hc), fun i _ => by rw [hf 67 h2]⟩
theorem z_eq_fx {cs : List Nat} {is : List Int} {M M' : jm_Mem} (hf : jm_fx cs is M M') (h1 : ∀ c ∈ cs, c ∉ z_rel) (h2 : ∀ i ∈ is, i ∉ z_pl) : z_eq M M' := ⟨fun c hc => hf.1 c (fun q => h1 c q hc) (fun q => by rw [q] at hc; revert hc; decide), fun i hi => hf.2 i (fun q => h2 i q hi)⟩
theorem z_eq_tr {M M1 M2 : jm_Mem} (a : z_eq M M1) (b : z_eq M1 M2) : z_eq M M2 := ⟨fun c hc => (b.1 c hc).trans (a.1 c hc), fun i hi => (b.2 i hi).trans (a.2 i hi)⟩
theorem z_eq_rfl (M : jm_Mem) : z_eq M M := ⟨fun _ _ => rfl, fun _ _ => rfl⟩
theorem z_eq_0 (M : jm_Mem) (v : Int) : z_eq M (jm_st M 67 0 v) := z_eq_fx (cs := []) (is := [0]) (jm_fx_sx (by decide)) (by decide) (by decide)
theorem z_bo {w h : Int} {sl fo ba su : Int → Int} (hz : z_g w h sl fo ba su) : g_bo fo ba := fun e => by
  have h1 := hz.1.2.1 e
  dsimp only at h1
  omega
/-- a command that answers a number -/
def z_stp (cl : Nat) (as : List jm_V) (rf : Nat) (M : jm_Mem) : Prop := jm_cl cl (jm_R 0 :: as) M (fun r M1 => ∃ x : Int, r = some (jm_I x) ∧ jm_cl rf (jm_R 67 :: as) M1 (fun r2 M2 => r2 = some (jm_I x) ∧ z_Sm M2 ∧ y_gh 760 M M2))
def z_ro : Option Int → Option jm_V
  | none => jm_thr
  | some x => some (jm_I x)
/-- one that may throw -/
def z_thr (cl : Nat) (as : List jm_V) (rf : Nat) (M : jm_Mem) : Prop := jm_cl cl (jm_R 0 :: as) M (fun r M1 => ∃ o : Option Int, r = z_ro o ∧ M1 999 = M 999 ∧ ∀ M2, jm_fr [94, 999] M1 M2 → jm_cl rf (jm_R 67 :: as) M2 (fun r2 M3 => ∃ y : Int, r2 = some (jm_I y) ∧ ((o = none ∧ M3 67 0 = 1) ∨ (o = some y ∧ M3 67 0 = 0)) ∧ z_Sm M3 ∧ M3 999 = M2 999 ∧ M3 94 = M2 94))
theorem z_gh {M M' : jm_Mem} (e : M' 999 = M 999) : y_gh 760 M M' := y_gh_nw (y_gh_mo (y_gh_rfl M) (by omega)) e
abbrev z_q (M M' : jm_Mem) : Prop := z_eq M M' ∧ M' 999 = M 999 ∧ M' 94 = M 94
theorem z_q_rfl (M : jm_Mem) : z_q M M := ⟨z_eq_rfl M, rfl, rfl⟩
theorem z_q_tr {M M1 M2 : jm_Mem} (a : z_q M M1) (b : z_q M1 M2) : z_q M M2 := ⟨z_eq_tr a.1 b.1, b.2.1.trans a.2.1, b.2.2.trans a.2.2⟩
theorem z_q_fr {cs : List Nat} {M M' : jm_Mem} (hf : jm_fr cs M M') (h1 : ∀ c ∈ cs, c ∉ z_rel) (h2 : 67 ∉ cs) (h3 : 999 ∉ cs ∧ 94 ∉ cs) : z_q M M' := ⟨z_eq_fr hf h1 h2, hf 999 h3.1, hf 94 h3.2⟩
theorem z_q_fx {cs : List Nat} {is : List Int} {M M' : jm_Mem} (hf : jm_fx cs is M M') (h1 : ∀ c ∈ cs, c ∉ z_rel) (h2 : ∀ i ∈ is, i ∉ z_pl) (h3 : 999 ∉ cs ∧ 94 ∉ cs) : z_q M M' := ⟨z_eq_fx hf h1 h2, hf.1 999 h3.1 (by decide), hf.1 94 h3.2 (by decide)⟩
theorem z_q_0 (M : jm_Mem) (v : Int) : z_q M (jm_st M 67 0 v) := ⟨z_eq_0 M v, rfl, rfl⟩
theorem z_mk {cl rf : Nat} {as : List jm_V} {w h : Int} {sl fo ba su : Int → Int} {M : jm_Mem} (hS : z_S w h sl fo ba su M) (x : Int) (hc : ∀ Q : jm_Q, (∀ M1, z_q M M1 → Q (some (jm_I x)) M1) → jm_cl cl (jm_R 0 :: as) M Q) (hr : ∀ (M1 : jm_Mem) (Q : jm_Q), z_S w h sl fo ba su M1 → z_q M M1 → (∀ M2, z_q M1 M2 → Q (some (jm_I x)) M2) → jm_cl rf (jm_R 67 :: as) M1 Q) : z_stp cl as rf M := by
  refine hc _ ?_
  intro M1 q1
  refine ⟨x, rfl, hr M1 _ (z_S_eq q1.1 hS) q1 ?_⟩
  intro M2 q2
  exact ⟨rfl, ⟨w, h, sl, fo, ba, su, z_S_eq (z_q_tr q1 q2).1 hS⟩, z_gh (z_q_tr q1 q2).2.1⟩
theorem z_mt {cl rf : Nat} {as : List jm_V} {w h : Int} {sl fo ba su : Int → Int} {M : jm_Mem} (hS : z_S w h sl fo ba su M) (o : Option Int) (hc : ∀ Q : jm_Q, (∀ M1, z_q M M1 → Q (z_ro o) M1) → jm_cl cl (jm_R 0 :: as) M Q) (hr : ∀ (M1 : jm_Mem) (Q : jm_Q), z_S w h sl fo ba su M1 → z_eq M M1 → (∀ y M2, z_q M1 M2 → ((o = none ∧ M2 67 0 = 1) ∨ (o = some y ∧ M2 67 0 = 0)) → Q (some (jm_I y)) M2) → jm_cl rf (jm_R 67 :: as) M1 Q) : z_thr cl as rf M := by
  refine hc _ ?_
  intro M1 q1
  refine ⟨o, rfl, q1.2.1, ?_⟩
  intro M2 f2
  have e2 : z_eq M M2 := z_eq_tr q1.1 (z_eq_fr f2 (by decide) (by decide))
  refine hr M2 _ (z_S_eq e2 hS) e2 ?_
  intro y M3 q3 hy
  exact ⟨y, rfl, hy, ⟨w, h, sl, fo, ba, su, z_S_eq (z_eq_tr e2 q3.1) hS⟩, q3.2⟩
theorem z_X {w h : Int} {sl fo ba su : Int → Int} {M : jm_Mem} (hS : z_S w h sl fo ba su M) (v : Int) : z_S w h sl fo ba su (jm_st M 67 0 v) := z_S_eq (z_eq_0 M v) hS
