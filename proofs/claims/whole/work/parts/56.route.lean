/-! ROUTES -/
section R2
variable (w h : Int) (sl fo ba : Int → Int)
/-- an edge by which what is left is least -/
abbrev g_nC (to f e : Int) : Prop := (g_lf w h sl e = f ∧ g_dk w h sl fo ba to f = g_dk w h sl fo ba to (g_rt w h sl e) + 65536 * fo e + 1) ∨ (g_rt w h sl e = f ∧ g_dk w h sl fo ba to f = g_dk w h sl fo ba to (g_lf w h sl e) + 65536 * ba e + 1)
def g_fd (to f : Int) : List Int → Int
  | [] => -1
  | e :: l => if g_nC w h sl fo ba to f e then e else g_fd to f l
def g_ne (to f : Int) : Int := g_fd w h sl fo ba to f (g_el w h sl)
def g_nf (to f : Int) : Int := if g_lf w h sl (g_ne w h sl fo ba to f) = f then g_rt w h sl (g_ne w h sl fo ba to f) else g_lf w h sl (g_ne w h sl fo ba to f)
def g_wk (to : Int) : Nat → Int → Int
  | 0, f => f
  | k + 1, f => g_wk to k (g_nf w h sl fo ba to f)
end R2
section R3
variable {w h : Int} {sl fo ba : Int → Int}
theorem g_fd_of {to f : Int} : ∀ {l : List Int}, (∃ e ∈ l, g_nC w h sl fo ba to f e) → g_fd w h sl fo ba to f l ∈ l ∧ g_nC w h sl fo ba to f (g_fd w h sl fo ba to f l)
  | [], hx => by
    obtain ⟨e, he, -⟩ := hx
    cases he
  | a :: l, hx => by
    unfold g_fd
    by_cases hc : g_nC w h sl fo ba to f a
    · rw [if_pos hc]
      exact ⟨List.mem_cons_self, hc⟩
    · rw [if_neg hc]
      have := g_fd_of (l := l) (by
        obtain ⟨e, he, h2⟩ := hx
        rcases List.mem_cons.1 he with rfl | he
        · exact absurd h2 hc
        · exact ⟨e, he, h2⟩)
      exact ⟨List.mem_cons_of_mem _ this.1, this.2⟩
/-- at a face that isn't the end: an edge, a face behind it, one hop less -/
theorem g_ne_of (hg : g_ok w h sl) (hbo : g_bo fo ba) (hc : g_circ w h sl fo ba) {to f : Int} (hto : g_F w h sl to) (hf : g_F w h sl f) (hne : f ≠ to) : g_E w h sl (g_ne w h sl fo ba to f) ∧ g_F w h sl (g_nf w h sl fo ba to f) ∧ g_dh w h sl fo ba to f = g_dh w h sl fo ba to (g_nf w h sl fo ba to f) + 1 := by
  obtain ⟨e, he, h1⟩ := g_d_on hg hc hto hf hne
  have h2 := g_fd_of (l := g_el w h sl) ⟨e, (g_el_mem hg.1).2 he, h1⟩
  have hE : g_E w h sl (g_ne w h sl fo ba to f) := (g_el_mem hg.1).1 h2.1
  have hC : g_nC w h sl fo ba to f (g_ne w h sl fo ba to f) := h2.2
  have htwo := g_two hg.1 hE
  obtain ⟨lF, -, -⟩ := g_lfF hg hE
  obtain ⟨rF, -, -⟩ := g_rtF hg hE
  have bf := g_d_bd hg hbo hc hto hf
  have bl := g_d_bd hg hbo hc hto lF
  have br := g_d_bd hg hbo hc hto rF
  unfold g_nf
  unfold g_dh g_dc at *
  rcases hC with ⟨q1, q2⟩ | ⟨q1, q2⟩
  · rw [if_pos q1]
    exact ⟨hE, rF, by omega⟩
  · rw [if_neg (fun r => htwo (r.trans q1.symm))]
    exact ⟨hE, lF, by omega⟩
theorem g_dh0 (hg : g_ok w h sl) (hbo : g_bo fo ba) (hc : g_circ w h sl fo ba) {to f : Int} (hto : g_F w h sl to) (hf : g_F w h sl f) : g_dh w h sl fo ba to f = 0 ↔ f = to := by
  constructor
  · intro q
    by_cases hne : f = to
    · exact hne
    · have h1 := g_ne_of hg hbo hc hto hf hne
      have h2 := g_d_bd hg hbo hc hto h1.2.1
      omega
  · intro q
    rw [q]
    unfold g_dh
    rw [g_d_to hg hc hto]
    rfl
/-- a key is met as cost and hops are -/
theorem g_key_iff (hg : g_ok w h sl) (hbo : g_bo fo ba) (hc : g_circ w h sl fo ba) {to f g W : Int} (hto : g_F w h sl to) (hf : g_F w h sl f) (hgf : g_F w h sl g) : (4096 * g_dc w h sl fo ba to g + g_dh w h sl fo ba to g + W * 4096 + 1 = 4096 * g_dc w h sl fo ba to f + g_dh w h sl fo ba to f ↔ g_dk w h sl fo ba to f = g_dk w h sl fo ba to g + 65536 * W + 1) ∧ ((g_dc w h sl fo ba to g + W = g_dc w h sl fo ba to f ∧ g_dh w h sl fo ba to g + 1 = g_dh w h sl fo ba to f) ↔ g_dk w h sl fo ba to f = g_dk w h sl fo ba to g + 65536 * W + 1) := by
  have bf := g_d_bd hg hbo hc hto hf
  have bg := g_d_bd hg hbo hc hto hgf
  unfold g_dh g_dc at *
  omega
theorem e_47 {M : jm_Mem} {to f : Int} (hg : g_ok w h sl) (hbo : g_bo fo ba) (hc : g_circ w h sl fo ba) (hT : g_tb w h sl M) (hfo : M 4 = fo) (hba : M 5 = ba) (hto : g_F w h sl to) (hf : g_F w h sl f) (hK : ∀ v, g_F w h sl v → M 38 v = 4096 * g_dc w h sl fo ba to v + g_dh w h sl fo ba to v) (Q : jm_Q) : jm_cl 47 [jm_R 37, jm_R 1, jm_I f] M Q ↔ Q (some (jm_I (g_ne w h sl fo ba to f))) M := by
  refine jm_cl_e (fun Q hQ => sc_47 ?_) Q
  have hfb := g_Fb hg hf
  have L : ∀ (rest pre : List Int), pre ++ rest = g_el w h sl → ∀ o4, Q (some (jm_I (g_fd w h sl fo ba to f rest))) M → jm_run 47 (2, [some (jm_R 37), some (jm_R 1), some (jm_I f), some (jm_I (pre.length : Int)), o4], [], M) Q := by
    intro rest
    induction rest with
    | nil =>
      intro pre hp o4 hq
      exact sg_47_2 ⟨fun a => absurd a (tb_nil hT hp), fun a => hq⟩
    | cons e rest ih =>
      intro pre hp o4 hq
      obtain ⟨t1, t2, t3, t4, t5, t6, t7⟩ := tb_cons hg.1 hT hp
      obtain ⟨b1, b2, -, -⟩ := g_Eb hg.1 t3
      have htwo := g_two hg.1 t3
      obtain ⟨lF, l0, l1⟩ := g_lfF hg t3
      obtain ⟨rF, r0, r1⟩ := g_rtF hg t3
      obtain ⟨o1, o2, o3, o4', o5'⟩ := hbo e
      have ih := ih (pre ++ [e]) t6 (some (jm_I e))
      rw [t7] at ih
      unfold g_fd at hq
      refine sg_47_2 ⟨fun a => ⟨t4, t5, ?_⟩, fun a => absurd t1 a⟩
      rw [t2, e_27 hg.1 hT t3]
      refine ⟨_, rfl, fun b => ⟨⟨by omega, by omega⟩, ?_⟩, fun b => ?_⟩
      · rw [jm_B0] at b
        rw [if_neg (fun q => b (q.elim (fun r => Or.inl r.1) (fun r => Or.inr r.1)))] at hq
        exact ih hq
      · rw [jm_Bn] at b
        rw [e_25 hg.1 hT t3]
        refine ⟨_, rfl, ?_⟩
        rw [e_26 hg.1 hT t3, hfo, hba]
        refine ⟨_, rfl, ?_⟩
        by_cases hl : g_lf w h sl e = f
        · rw [if_pos hl, if_pos hl]
          have hb := g_d_bd hg hbo hc hto rF
          rw [e_43 r0 (by omega) ⟨o1, o2⟩ (by rw [hK _ rF]; omega), hK _ rF, hK _ hf]
          have hk := (g_key_iff hg hbo hc (W := fo e) hto hf rF).1
          refine ⟨_, rfl, hfb.1, by omega, fun d => ?_, fun d => ⟨⟨by omega, by omega⟩, ?_⟩⟩
          · rw [if_pos (Or.inl ⟨hl, hk.1 d⟩)] at hq
            exact hq
          · rw [if_neg (fun q => q.elim (fun r => d (hk.2 r.2)) (fun r => htwo (hl.trans r.1.symm)))] at hq
            exact ih hq
        · have hr : g_rt w h sl e = f := b.resolve_left hl
          rw [if_neg hl, if_neg hl]
          have hb := g_d_bd hg hbo hc hto lF
          rw [e_43 l0 (by omega) ⟨o3, o4'⟩ (by rw [hK _ lF]; omega), hK _ lF, hK _ hf]
          have hk := (g_key_iff hg hbo hc (W := ba e) hto hf lF).1
          refine ⟨_, rfl, hfb.1, by omega, fun d => ?_, fun d => ⟨⟨by omega, by omega⟩, ?_⟩⟩
          · rw [if_pos (Or.inr ⟨hr, hk.1 d⟩)] at hq
            exact hq
          · rw [if_neg (fun q => q.elim (fun r => hl r.1) (fun r => d (hk.2 r.2)))] at hq
            exact ih hq
  exact L _ [] rfl _ hQ
theorem e_46 {M : jm_Mem} {to f i : Int} (hg : g_ok w h sl) (hbo : g_bo fo ba) (hc : g_circ w h sl fo ba) (hT : g_tb w h sl M) (hfo : M 4 = fo) (hba : M 5 = ba) (hto : g_F w h sl to) (hf : g_F w h sl f) (h0 : 0 ≤ i) (hK : ∀ v, g_F w h sl v → M 38 v = 4096 * g_dc w h sl fo ba to v + g_dh w h sl fo ba to v) (Q : jm_Q) : jm_cl 46 [jm_R 37, jm_R 1, jm_I f, jm_I to, jm_I i] M Q ↔ Q (some (jm_I (if i < g_dh w h sl fo ba to f then g_ne w h sl fo ba to (g_wk w h sl fo ba to i.toNat f) else -1))) M := by
  refine jm_cl_e (fun Q hQ => sc_46 ?_) Q
  have hN := g_fs_len (w := w) (h := h) (sl := sl)
  have L : ∀ j, j ≤ ((g_fs w h sl).length : Int) → 0 ≤ j → j ≤ i → ∀ (v : Int) (o7 : Option jm_V), g_F w h sl v → Q (some (jm_I (if i - j < g_dh w h sl fo ba to v then g_ne w h sl fo ba to (g_wk w h sl fo ba to (i - j).toNat v) else -1))) M → g_dh w h sl fo ba to v ≤ ((g_fs w h sl).length : Int) - 1 - j → jm_run 46 (4, [some (jm_R 37), some (jm_R 1), some (jm_I f), some (jm_I to), some (jm_I i), some (jm_I v), some (jm_I j), o7], [], M) Q := by
    refine jm_dn ?_
    intro j hj ih j0 ji v o7 hv hq hlen
    have hb := g_d_bd hg hbo hc hto hv
    refine sg_46_4 ?_
    rw [t_fc hg hT]
    refine ⟨fun a => ⟨fun b => ?_, fun b => ?_⟩, fun a => ?_⟩
    · have := (g_dh0 hg hbo hc hto hv).2 b
      rw [if_neg (by omega)] at hq
      exact hq
    · obtain ⟨n1, n2, n3⟩ := g_ne_of hg hbo hc hto hv b
      have n1b := g_Eb hg.1 n1
      rw [e_47 hg hbo hc hT hfo hba hto hv hK]
      refine ⟨_, rfl, fun c => by omega, fun c => ⟨fun d => ?_, fun d => ?_⟩⟩
      · have hb2 := g_d_bd hg hbo hc hto n2
        rw [if_pos (by omega), show (i - j).toNat = 0 by omega] at hq
        exact hq
      · rw [e_25 hg.1 hT n1]
        refine ⟨_, rfl, ⟨by omega, by omega⟩, ih a (by omega) (by omega) _ _ n2 ?_ ?_⟩
        rw [show (if g_lf w h sl (g_ne w h sl fo ba to v) = v then g_rt w h sl (g_ne w h sl fo ba to v) else g_lf w h sl (g_ne w h sl fo ba to v)) = g_nf w h sl fo ba to v from rfl]
        · obtain ⟨k, hk⟩ : ∃ k : Nat, (i - j).toNat = k + 1 := ⟨(i - j).toNat - 1, by omega⟩
          rw [show (i - (j + 1)).toNat = k by omega]
          rw [hk] at hq
          by_cases hlt : i - j < g_dh w h sl fo ba to v
          · rw [if_pos hlt] at hq
            have hlt2 : i - (j + 1) < g_dh w h sl fo ba to (g_nf w h sl fo ba to v) := by omega
            rw [if_pos hlt2]
            exact hq
          · rw [if_neg hlt] at hq
            have hlt2 : ¬ i - (j + 1) < g_dh w h sl fo ba to (g_nf w h sl fo ba to v) := by omega
            rw [if_neg hlt2]
            exact hq
        · show g_dh w h sl fo ba to (g_nf w h sl fo ba to v) ≤ _
          omega
    · rw [if_neg (by omega)] at hq
      exact hq
  have hlen : g_dh w h sl fo ba to f ≤ ((g_fs w h sl).length : Int) - 1 := by
    have h73 := g_bwK_end hg hc hto (show (g_fs w h sl).length < 73 + 2 by omega)
    have h1 := g_dk_of hg hc hto h73 hf
    obtain ⟨π, hπ⟩ := g_circ_bw hg hc
    obtain ⟨r, P, -, -, -, -, -, -, h7, h8, h9⟩ := b_J_n (A := (g_bw w h sl fo ba).map b_K) (s0 := to) (g_bwK_ne hg) (g_bwK_fs hg) ((g_fs_mem hg).2 hto) 73
    have hin := b_in_n (A := (g_bw w h sl fo ba).map b_K) (g_bwK_fs hg) (b_in_0 ((g_fs_mem hg).2 hto)) 73
    obtain ⟨p1, p2, p3⟩ := h7 f (by rw [h1]; simp)
    have k1 := b_pig (P f) (g_fs w h sl) (h8 (fun v => 65536 * π v) (b_potK hπ) f _ h1).1 (fun u hu => hin u (p3 u hu))
    have k2 := h9 g_bwK_W f _ h1
    have k3 := g_d_bd hg hbo hc hto hf
    have k4 := List.length_pos_of_mem p2
    unfold g_dh at k3 ⊢
    omega
  refine L 0 (by omega) (by omega) h0 f _ hf ?_ (by omega)
  rw [Int.sub_zero]
  exact hQ
theorem e_44 {M : jm_Mem} {to f : Int} (hg : g_ok w h sl) (hbo : g_bo fo ba) (hc : g_circ w h sl fo ba) (hto : g_F w h sl to) (hf : g_F w h sl f) (hK : ∀ v, g_F w h sl v → M 38 v = 4096 * g_dc w h sl fo ba to v + g_dh w h sl fo ba to v) (Q : jm_Q) : jm_cl 44 [jm_R 37, jm_I f] M Q ↔ Q (some (jm_I (g_dc w h sl fo ba to f))) M := by
  refine jm_cl_e (fun Q hQ => sc_44 ?_) Q
  have hb := g_Fb hg hf
  have hd := g_d_bd hg hbo hc hto hf
  refine ⟨hb.1, by omega, by omega, by omega, ?_⟩
  rw [hK f hf, show (2 : Int) ^ Int.toNat 12 = 4096 from rfl, show (4096 * g_dc w h sl fo ba to f + g_dh w h sl fo ba to f) / 4096 = g_dc w h sl fo ba to f by omega]
  exact hQ
theorem e_45 {M : jm_Mem} {to f : Int} (hg : g_ok w h sl) (hbo : g_bo fo ba) (hc : g_circ w h sl fo ba) (hto : g_F w h sl to) (hf : g_F w h sl f) (hK : ∀ v, g_F w h sl v → M 38 v = 4096 * g_dc w h sl fo ba to v + g_dh w h sl fo ba to v) (Q : jm_Q) : jm_cl 45 [jm_R 37, jm_I f] M Q ↔ Q (some (jm_I (g_dh w h sl fo ba to f))) M := by
  refine jm_cl_e (fun Q hQ => sc_45 ?_) Q
  have hb := g_Fb hg hf
  have hd := g_d_bd hg hbo hc hto hf
  refine ⟨hb.1, by omega, by omega, ?_⟩
  rw [hK f hf, show (4096 * g_dc w h sl fo ba to f + g_dh w h sl fo ba to f) % (4095 + 1) = g_dh w h sl fo ba to f by omega]
  exact hQ
end R3
