/-! images -/
section ZA
variable {w h : Int} {sl fo ba su : Int → Int} {M : jm_Mem}
theorem z_ri_eq {a : Int} {M M' : jm_Mem} (e : ∀ j, a ≤ j → j < a + 290 → M' 93 j = M 93 j) (hH : z_ri a w h sl fo ba su M) : z_ri a w h sl fo ba su M' := by
  obtain ⟨h1, h2, h3, h4⟩ := hH
  refine ⟨?_, ?_, fun v v0 v1 => ⟨?_, ?_⟩, fun i i0 i1 => ⟨?_, ?_⟩⟩
  · rw [e _ (by omega) (by omega)]; exact h1
  · rw [e _ (by omega) (by omega)]; exact h2
  · rw [e _ (by omega) (by omega)]; exact (h3 v v0 v1).1
  · rw [e _ (by omega) (by omega)]; exact (h3 v v0 v1).2
  · rw [e _ (by omega) (by omega)]; exact (h4 i i0 i1).1
  · rw [e _ (by omega) (by omega)]; exact (h4 i i0 i1).2
theorem p_209 {i : Int} {Q : jm_Q} (hR : z_R w h sl fo ba su M) (hi : i = 0 ∨ i = 1) (h51 : 0 ≤ M 67 51) (hQ : ∀ M', z_ri (290 * i) w h sl fo ba su M' → (∀ j, ¬ (290 * i ≤ j ∧ j < 290 * i + 290) → M' 93 j = M 93 j) → jm_fx [93] [0, 51] M M' → M' 67 51 = jm_or (M 67 51) (2 ^ Int.toNat i) → Q (some (jm_I 1)) M') : jm_cl 209 [jm_R 67, jm_I i] M Q := by
  have hin : 0 ≤ i ∧ i ≤ 1 := by omega
  obtain ⟨hX, x4, x5, x6⟩ := id hR
  generalize hA : 290 * i = a at *
  have ab : a = 0 ∨ a = 290 := by omega
  have p2 : (0 : Int) ≤ 2 ^ Int.toNat i := by
    rcases hi with hi | hi <;> (rw [hi]; decide)
  have B : ∀ e, e ≤ 108 → 0 ≤ e → ∀ M1, jm_fx [93] [0] M M1 → M1 93 a = w → M1 93 (a + 1) = h → (∀ v, 0 ≤ v → v < 36 → M1 93 (a + 2 + v) = sl v ∧ M1 93 (a + 38 + v) = su v) → (∀ v, 0 ≤ v → v < e → M1 93 (a + 74 + v) = fo v ∧ M1 93 (a + 182 + v) = ba v) → (∀ j, ¬ (a ≤ j ∧ j < a + 290) → M1 93 j = M 93 j) → jm_run 209 (61, [some (jm_R 67), some (jm_I i), some (jm_I a), some (jm_I e)], [], M1) Q := by
    refine jm_dn ?_
    intro e he ih e0 M1 f1 k1 k2 k3 k4 k5
    have m69 : M1 69 = fo := by rw [f1.1 69 (by decide) (by decide)]; exact x4
    have m70 : jm_st M1 93 (a + 74 + e) (M1 69 e) 70 e = ba e := by
      show M1 70 e = ba e
      rw [f1.1 70 (by decide) (by decide), x5]
    have m51 : M1 67 51 = M 67 51 := f1.2 51 (by decide)
    refine sg_209_61 ⟨fun lt => ⟨⟨by omega, by omega⟩, ⟨by omega, by omega⟩, e0, lt, by omega, by omega, ⟨by omega, by omega⟩, ⟨by omega, by omega⟩, e0, lt, by omega, by omega, ⟨by omega, by omega⟩, ?_⟩, fun ge => ⟨rfl, hin.1, by omega, by omega, p2, by omega, by omega, ?_⟩⟩
    · rw [m70, m69]
      have up : ∀ j, j ≠ a + 74 + e → j ≠ a + 182 + e → jm_st (jm_st M1 93 (a + 74 + e) (fo e)) 93 (a + 182 + e) (ba e) 93 j = M1 93 j := by
        intro j q1 q2
        show jm_up (jm_up (M1 93) (a + 74 + e) (fo e)) (a + 182 + e) (ba e) j = _
        rw [jm_up_o q2, jm_up_o q1]
      refine ih lt (by omega) _ (jm_fx_tr f1 (jm_fx_tr (jm_fx_st (by decide) (by decide)) (jm_fx_st (by decide) (by decide)))) ?_ ?_ (fun v v0 v1 => ?_) (fun v v0 v1 => ?_) (fun j hj => ?_)
      · rw [up _ (by omega) (by omega)]; exact k1
      · rw [up _ (by omega) (by omega)]; exact k2
      · rw [up _ (by omega) (by omega), up _ (by omega) (by omega)]; exact k3 v v0 v1
      · by_cases q : v = e
        · rw [q]
          refine ⟨?_, ?_⟩
          · show jm_up (jm_up (M1 93) (a + 74 + e) (fo e)) (a + 182 + e) (ba e) (a + 74 + e) = _
            rw [jm_up_o (by omega), jm_up_s]
          · show jm_up (jm_up (M1 93) (a + 74 + e) (fo e)) (a + 182 + e) (ba e) (a + 182 + e) = _
            rw [jm_up_s]
        · rw [up _ (by omega) (by omega), up _ (by omega) (by omega)]; exact k4 v v0 (by omega)
      · rw [up _ (by omega) (by omega)]; exact k5 j hj
    · rw [m51]
      exact hQ _ ⟨k1, k2, k3, fun v v0 v1 => k4 v v0 (by omega)⟩ k5 (jm_fx_tr (jm_fx_mo f1 (by decide) (by decide)) (jm_fx_sx (by decide))) (by rw [jm_s67, if_pos rfl])
  have A : ∀ e, e ≤ 36 → 0 ≤ e → ∀ M1, jm_fx [93] [0] M M1 → M1 93 a = w → M1 93 (a + 1) = h → (∀ v, 0 ≤ v → v < e → M1 93 (a + 2 + v) = sl v ∧ M1 93 (a + 38 + v) = su v) → (∀ j, ¬ (a ≤ j ∧ j < a + 290) → M1 93 j = M 93 j) → jm_run 209 (30, [some (jm_R 67), some (jm_I i), some (jm_I a), some (jm_I e)], [], M1) Q := by
    refine jm_dn ?_
    intro e he ih e0 M1 f1 k1 k2 k3 k5
    have m68 : M1 68 = sl := by rw [f1.1 68 (by decide) (by decide)]; exact hX.2.2
    have m71 : jm_st M1 93 (a + 2 + e) (M1 68 e) 71 e = su e := by
      show M1 71 e = su e
      rw [f1.1 71 (by decide) (by decide), x6]
    refine sg_209_30 ⟨fun lt => ⟨⟨by omega, by omega⟩, ⟨by omega, by omega⟩, e0, lt, by omega, by omega, ⟨by omega, by omega⟩, ⟨by omega, by omega⟩, e0, lt, by omega, by omega, ⟨by omega, by omega⟩, ?_⟩, fun ge => B 0 (by omega) (by omega) M1 f1 k1 k2 (fun v v0 v1 => k3 v v0 (by omega)) (fun v v0 v1 => by omega) k5⟩
    rw [m71, m68]
    have up : ∀ j, j ≠ a + 2 + e → j ≠ a + 38 + e → jm_st (jm_st M1 93 (a + 2 + e) (sl e)) 93 (a + 38 + e) (su e) 93 j = M1 93 j := by
      intro j q1 q2
      show jm_up (jm_up (M1 93) (a + 2 + e) (sl e)) (a + 38 + e) (su e) j = _
      rw [jm_up_o q2, jm_up_o q1]
    refine ih lt (by omega) _ (jm_fx_tr f1 (jm_fx_tr (jm_fx_st (by decide) (by decide)) (jm_fx_st (by decide) (by decide)))) ?_ ?_ (fun v v0 v1 => ?_) (fun j hj => ?_)
    · rw [up _ (by omega) (by omega)]; exact k1
    · rw [up _ (by omega) (by omega)]; exact k2
    · by_cases q : v = e
      · rw [q]
        refine ⟨?_, ?_⟩
        · show jm_up (jm_up (M1 93) (a + 2 + e) (sl e)) (a + 38 + e) (su e) (a + 2 + e) = _
          rw [jm_up_o (by omega), jm_up_s]
        · show jm_up (jm_up (M1 93) (a + 2 + e) (sl e)) (a + 38 + e) (su e) (a + 38 + e) = _
          rw [jm_up_s]
      · rw [up _ (by omega) (by omega), up _ (by omega) (by omega)]; exact k3 v v0 (by omega)
    · rw [up _ (by omega) (by omega)]; exact k5 j hj
  refine sc_209 ?_
  rw [e_119, hA]
  refine ⟨_, rfl, fun z => absurd hin (jm_B0.1 z), fun _ => ⟨⟨by omega, by omega⟩, by omega, by omega, ⟨by omega, by omega⟩, by omega, by omega, A 0 (by omega) (by omega) _ (jm_fx_tr (jm_fx_sx (by decide)) (jm_fx_tr (jm_fx_st (by decide) (by decide)) (jm_fx_st (by decide) (by decide)))) ?_ ?_ (fun v v0 v1 => by omega) (fun j hj => ?_)⟩⟩
  · show jm_up (jm_up (M 93) a (M 67 1)) (a + 1) (M 67 2) a = w
    rw [jm_up_o (by omega), jm_up_s]; exact hX.1
  · show jm_up (jm_up (M 93) a (M 67 1)) (a + 1) (M 67 2) (a + 1) = h
    rw [jm_up_s]; exact hX.2.1
  · show jm_up (jm_up (M 93) a (M 67 1)) (a + 1) (M 67 2) j = _
    rw [jm_up_o (by omega), jm_up_o (by omega)]
theorem p_210 {i : Int} {Q : jm_Q} (hz : z_g w h sl fo ba su) (hp : z_p M) (hri : z_ri (290 * i) w h sl fo ba su M) (hi : i = 0 ∨ i = 1) (hbit : ¬ ((M 67 51 / 2 ^ Int.toNat i) % (1 + 1)) = 0) (hQ : ∀ M', z_R w h sl fo ba su M' → jm_fx [68, 69, 70, 71] [0, 1, 2, 33] M M' → M' 67 33 = 0 → Q (some (jm_I 1)) M') : jm_cl 210 [jm_R 67, jm_I i] M Q := by
  have hin : 0 ≤ i ∧ i ≤ 1 := by omega
  generalize hA : 290 * i = a at *
  have ab : a = 0 ∨ a = 290 := by omega
  obtain ⟨r1, r2, r3, r4⟩ := hri
  have B : ∀ e, e ≤ 108 → 0 ≤ e → ∀ M1, jm_fx [68, 69, 70, 71] [0, 1, 2, 33] M M1 → M1 67 1 = w → M1 67 2 = h → (∀ v, M1 68 v = sl v ∧ M1 71 v = su v) → (∀ v, v < e ∨ 108 ≤ v → M1 69 v = fo v ∧ M1 70 v = ba v) → jm_run 210 (68, [some (jm_R 67), some (jm_I i), some (jm_I a), some (jm_I e)], [], M1) Q := by
    refine jm_dn ?_
    intro e he ih e0 M1 f1 k1 k2 k3 k4
    have e93 : M1 93 = M 93 := f1.1 93 (by decide) (by decide)
    refine sg_210_68 ⟨fun lt => ⟨⟨by omega, by omega⟩, ⟨by omega, by omega⟩, by omega, by omega, e0, lt, ⟨by omega, by omega⟩, ⟨by omega, by omega⟩, by omega, by omega, e0, lt, ⟨by omega, by omega⟩, ?_⟩, fun ge => ⟨by omega, by omega, by omega, by omega, hQ _ ⟨⟨k1, k2, funext (fun v => (k3 v).1)⟩, funext (fun v => (k4 v (by omega)).1), funext (fun v => (k4 v (by omega)).2), funext (fun v => (k3 v).2)⟩ (jm_fx_tr f1 (jm_fx_sx (by decide))) rfl⟩⟩
    have m1 : M1 93 (a + 74 + e) = fo e := by rw [e93]; exact (r4 e e0 lt).1
    have m2 : jm_st M1 69 e (M1 93 (a + 74 + e)) 93 (a + 182 + e) = ba e := by
      show M1 93 (a + 182 + e) = ba e
      rw [e93]; exact (r4 e e0 lt).2
    rw [m2, m1]
    refine ih lt (by omega) _ (jm_fx_tr f1 (jm_fx_tr (jm_fx_st (by decide) (by decide)) (jm_fx_st (by decide) (by decide)))) k1 k2 k3 (fun v hv => ?_)
    by_cases q : v = e
    · rw [q]
      exact ⟨jm_up_s .., jm_up_s ..⟩
    · have := k4 v (by omega)
      refine ⟨?_, ?_⟩
      · show jm_up (M1 69) e (fo e) v = _
        rw [jm_up_o q]; exact this.1
      · show jm_up (M1 70) e (ba e) v = _
        rw [jm_up_o q]; exact this.2
  have A : ∀ e, e ≤ 36 → 0 ≤ e → ∀ M1, jm_fx [68, 69, 70, 71] [0, 1, 2, 33] M M1 → M1 67 1 = w → M1 67 2 = h → (∀ v, v < e ∨ 36 ≤ v → M1 68 v = sl v ∧ M1 71 v = su v) → M1 69 = M 69 → M1 70 = M 70 → jm_run 210 (37, [some (jm_R 67), some (jm_I i), some (jm_I a), some (jm_I e)], [], M1) Q := by
    refine jm_dn ?_
    intro e he ih e0 M1 f1 k1 k2 k3 k4 k5
    have e93 : M1 93 = M 93 := f1.1 93 (by decide) (by decide)
    refine sg_210_37 ⟨fun lt => ⟨⟨by omega, by omega⟩, ⟨by omega, by omega⟩, by omega, by omega, e0, lt, ⟨by omega, by omega⟩, ⟨by omega, by omega⟩, by omega, by omega, e0, lt, ⟨by omega, by omega⟩, ?_⟩, fun ge => B 0 (by omega) (by omega) M1 f1 k1 k2 (fun v => k3 v (by omega)) (fun v hv => ?_)⟩
    · have m1 : M1 93 (a + 2 + e) = sl e := by rw [e93]; exact (r3 e e0 lt).1
      have m2 : jm_st M1 68 e (M1 93 (a + 2 + e)) 93 (a + 38 + e) = su e := by
        show M1 93 (a + 38 + e) = su e
        rw [e93]; exact (r3 e e0 lt).2
      rw [m2, m1]
      refine ih lt (by omega) _ (jm_fx_tr f1 (jm_fx_tr (jm_fx_st (by decide) (by decide)) (jm_fx_st (by decide) (by decide)))) k1 k2 (fun v hv => ?_) k4 k5
      by_cases q : v = e
      · rw [q]
        exact ⟨jm_up_s .., jm_up_s ..⟩
      · have := k3 v (by omega)
        refine ⟨?_, ?_⟩
        · show jm_up (M1 68) e (sl e) v = _
          rw [jm_up_o q]; exact this.1
        · show jm_up (M1 71) e (su e) v = _
          rw [jm_up_o q]; exact this.2
    · rw [k4, k5]
      have h1 := hp.2 v (by omega)
      have h2 := hz.1.2.2 v (by omega)
      exact ⟨h1.1.trans h2.1.symm, h1.2.trans h2.2.symm⟩
  refine sc_210 ?_
  rw [e_119, hA]
  refine ⟨_, rfl, fun z => absurd hin (jm_B0.1 z), fun _ => ⟨hin.1, by omega, Or.inl rfl, fun z => absurd z hbit, fun _ => ⟨⟨by omega, by omega⟩, by omega, by omega, ⟨by omega, by omega⟩, by omega, by omega, A 0 (by omega) (by omega) _ (jm_fx_tr (jm_fx_sx (by decide)) (jm_fx_tr (jm_fx_sx (by decide)) (jm_fx_sx (by decide)))) r1 r2 (fun v hv => ?_) rfl rfl⟩⟩⟩
  have h1 := hp.1 v (by omega)
  exact ⟨h1.1.trans (z_g_sl hz (by omega)).symm, h1.2.trans ((hz.2 v).2 (by omega)).symm⟩
theorem z_image (hS : z_S w h sl fo ba su M) (i : Int) : z_stp 110 [jm_I i] 209 M := by
  obtain ⟨hz, hC, hR, hW, hI, hTa, hbt⟩ := id hS
  obtain ⟨i1, i2, i3, i4, i5⟩ := id hI
  by_cases hi : i = 0 ∨ i = 1
  · rcases hi with hi | hi
    · subst hi
      refine sc_110 ⟨fun z => by omega, fun _ => ⟨fun _ => ⟨by omega, by omega, fun _ => p_76_I0 hC (fun M1 d1 f1 => ⟨rfl, by omega, by omega, by omega, by omega, by omega, by omega, _, rfl, ?_⟩), fun z => absurd rfl z⟩, fun z => by omega⟩⟩
      have f2 : jm_fr [22, 23, 24, 25, 26, 27] M (jm_st M1 22 0 1) := jm_fr_tr (jm_fr_mo f1 (by decide)) (jm_fr_st (by decide))
      have k0 : jm_st M1 22 0 1 22 0 = 1 := rfl
      have k1 : jm_st M1 22 0 1 22 1 = M 22 1 := by
        show M1 22 1 = M 22 1
        rw [f1 22 (by decide)]
      have d2 : z_td 23 w h sl fo ba su (jm_st M1 22 0 1) := d1
      generalize jm_st M1 22 0 1 = M2 at *
      have m51 : M2 67 51 = M 67 51 := by rw [f2 67 (by decide)]
      refine p_209 (i := 0) (z_R_on (z_sa_fr f2 (by decide) (by decide)) hR) (Or.inl rfl) (by rw [m51, i3]; omega) ?_
      intro M3 r3 o3 f3 b3
      have on : ∀ {cs : List Nat} {is : List Int}, (∀ c ∈ cs, c ∉ [22, 23, 24, 25, 26, 27]) → (∀ c ∈ cs, c ∉ [93] ∧ c ≠ 67) → (∀ i ∈ is, i ∉ [(0 : Int), 51]) → z_sa cs is M M3 := fun a1 a2 a3 => z_sa_tr (z_sa_fr f2 a1 (by decide)) (z_sa_fx f3 a2 a3)
      have e22 : M3 22 = M2 22 := f3.1 22 (by decide) (by decide)
      refine ⟨rfl, ⟨w, h, sl, fo, ba, su, hz, z_C_on (on (by decide) (by decide) (by decide)) hC, z_R_on (on (by decide) (by decide) (by decide)) hR, z_W_on (on (by decide) (by decide) (by decide)) hW, ⟨Or.inr (by rw [e22]; exact k0), by rw [e22, k1]; exact i2, ?_, fun _ => ⟨w, h, sl, fo, ba, su, hz, ?_, r3⟩, fun q => ?_⟩, z_T_on (on (by decide) (by decide) (by decide)) hTa, z_tb_on (on (by decide) (by decide) (by decide)) hbt⟩, z_gh ?_⟩
      · rw [b3, m51, i3, e22, k0, k1]
        rcases i1 with e | e <;> rcases i2 with g | g <;> (rw [e, g]; decide)
      · exact z_td_eq (f3.1 23 (by decide) (by decide)) (f3.1 24 (by decide) (by decide)) (f3.1 25 (by decide) (by decide)) (f3.1 26 (by decide) (by decide)) (f3.1 27 (by decide) (by decide)) d2
      · rw [e22, k1] at q
        obtain ⟨w', h', sl', fo', ba', su', g1, g2, g3⟩ := i5 q
        refine ⟨w', h', sl', fo', ba', su', g1, ?_, ?_⟩
        · exact z_td_eq ((on (cs := [28, 29, 30, 31, 32]) (is := []) (by decide) (by decide) (by decide)).1 28 (by decide)) ((on (cs := [28, 29, 30, 31, 32]) (is := []) (by decide) (by decide) (by decide)).1 29 (by decide)) ((on (cs := [28, 29, 30, 31, 32]) (is := []) (by decide) (by decide) (by decide)).1 30 (by decide)) ((on (cs := [28, 29, 30, 31, 32]) (is := []) (by decide) (by decide) (by decide)).1 31 (by decide)) ((on (cs := [28, 29, 30, 31, 32]) (is := []) (by decide) (by decide) (by decide)).1 32 (by decide)) g2
        · exact z_ri_eq (fun j j0 j1 => by rw [o3 j (by omega), f2 93 (by decide)]) g3
      · rw [f3.1 999 (by decide) (by decide), f2 999 (by decide)]
    · subst hi
      refine sc_110 ⟨fun z => by omega, fun _ => ⟨fun _ => ⟨by omega, by omega, fun z => by omega, fun _ => p_76_I1 hC (fun M1 d1 f1 => ⟨rfl, by omega, by omega, by omega, by omega, by omega, by omega, _, rfl, ?_⟩)⟩, fun z => by omega⟩⟩
      have f2 : jm_fr [22, 28, 29, 30, 31, 32] M (jm_st M1 22 1 1) := jm_fr_tr (jm_fr_mo f1 (by decide)) (jm_fr_st (by decide))
      have k1 : jm_st M1 22 1 1 22 1 = 1 := rfl
      have k0 : jm_st M1 22 1 1 22 0 = M 22 0 := by
        show M1 22 0 = M 22 0
        rw [f1 22 (by decide)]
      have d2 : z_td 28 w h sl fo ba su (jm_st M1 22 1 1) := d1
      generalize jm_st M1 22 1 1 = M2 at *
      have m51 : M2 67 51 = M 67 51 := by rw [f2 67 (by decide)]
      refine p_209 (i := 1) (z_R_on (z_sa_fr f2 (by decide) (by decide)) hR) (Or.inr rfl) (by rw [m51, i3]; omega) ?_
      intro M3 r3 o3 f3 b3
      have on : ∀ {cs : List Nat} {is : List Int}, (∀ c ∈ cs, c ∉ [22, 28, 29, 30, 31, 32]) → (∀ c ∈ cs, c ∉ [93] ∧ c ≠ 67) → (∀ i ∈ is, i ∉ [(0 : Int), 51]) → z_sa cs is M M3 := fun a1 a2 a3 => z_sa_tr (z_sa_fr f2 a1 (by decide)) (z_sa_fx f3 a2 a3)
      have e22 : M3 22 = M2 22 := f3.1 22 (by decide) (by decide)
      refine ⟨rfl, ⟨w, h, sl, fo, ba, su, hz, z_C_on (on (by decide) (by decide) (by decide)) hC, z_R_on (on (by decide) (by decide) (by decide)) hR, z_W_on (on (by decide) (by decide) (by decide)) hW, ⟨by rw [e22, k0]; exact i1, Or.inr (by rw [e22]; exact k1), ?_, fun q => ?_, fun _ => ⟨w, h, sl, fo, ba, su, hz, ?_, r3⟩⟩, z_T_on (on (by decide) (by decide) (by decide)) hTa, z_tb_on (on (by decide) (by decide) (by decide)) hbt⟩, z_gh ?_⟩
      · rw [b3, m51, i3, e22, k0, k1]
        rcases i1 with e | e <;> rcases i2 with g | g <;> (rw [e, g]; decide)
      · rw [e22, k0] at q
        obtain ⟨w', h', sl', fo', ba', su', g1, g2, g3⟩ := i4 q
        refine ⟨w', h', sl', fo', ba', su', g1, ?_, ?_⟩
        · exact z_td_eq ((on (cs := [23, 24, 25, 26, 27]) (is := []) (by decide) (by decide) (by decide)).1 23 (by decide)) ((on (cs := [23, 24, 25, 26, 27]) (is := []) (by decide) (by decide) (by decide)).1 24 (by decide)) ((on (cs := [23, 24, 25, 26, 27]) (is := []) (by decide) (by decide) (by decide)).1 25 (by decide)) ((on (cs := [23, 24, 25, 26, 27]) (is := []) (by decide) (by decide) (by decide)).1 26 (by decide)) ((on (cs := [23, 24, 25, 26, 27]) (is := []) (by decide) (by decide) (by decide)).1 27 (by decide)) g2
        · exact z_ri_eq (fun j j0 j1 => by rw [o3 j (by omega), f2 93 (by decide)]) g3
      · exact z_td_eq (f3.1 28 (by decide) (by decide)) (f3.1 29 (by decide) (by decide)) (f3.1 30 (by decide) (by decide)) (f3.1 31 (by decide) (by decide)) (f3.1 32 (by decide) (by decide)) d2
      · rw [f3.1 999 (by decide) (by decide), f2 999 (by decide)]
  · refine z_mk hS 0 ?_ ?_
    · intro Q hQ
      have hQ := hQ M (z_q_rfl M)
      exact sc_110 ⟨fun _ => ⟨by omega, by omega, hQ⟩, fun _ => ⟨fun _ => absurd (by omega) hi, fun _ => ⟨by omega, by omega, hQ⟩⟩⟩
    · intro M1 Q S1 _ hQ
      refine sc_209 ?_
      rw [e_119]
      refine ⟨_, rfl, fun _ => ⟨by omega, by omega, hQ _ (z_q_0 M1 0)⟩, fun z => absurd ?_ hi⟩
      have := jm_Bn.1 z
      omega
theorem z_back (hS : z_S w h sl fo ba su M) (i : Int) : z_stp 111 [jm_I i] 210 M := by
  obtain ⟨hz, hC, hR, hW, hI, hTa, hbt⟩ := id hS
  obtain ⟨i1, i2, i3, i4, i5⟩ := id hI
  have fin : ∀ (c : Nat) (w' h' : Int) (sl' fo' ba' su' : Int → Int) (M2 : jm_Mem), (i = 0 ∨ i = 1) → ¬ ((M 67 51 / 2 ^ Int.toNat i) % (1 + 1)) = 0 → z_g w' h' sl' fo' ba' su' → z_ri (290 * i) w' h' sl' fo' ba' su' M → z_C w' h' sl' fo' ba' su' M2 → jm_fr [1, 2, 3, 4, 5, 6, 7, 8, 9, 10, 11, 12, 13, 14, 15] M M2 → jm_cl 210 (jm_R 67 :: [jm_I i]) (jm_st M2 42 4 0) (fun r2 M3 => r2 = some (jm_I 1) ∧ z_Sm M3 ∧ y_gh 760 M M3) := by
    intro c w' h' sl' fo' ba' su' M2 hi hbit g1 g3 C2 f2
    have f3 : jm_fr [1, 2, 3, 4, 5, 6, 7, 8, 9, 10, 11, 12, 13, 14, 15, 42] M (jm_st M2 42 4 0) := jm_fr_tr (jm_fr_mo f2 (by decide)) (jm_fr_st (by decide))
    have k42 : jm_st M2 42 4 0 42 4 = 0 := rfl
    have C3 : z_C w' h' sl' fo' ba' su' (jm_st M2 42 4 0) := z_C_fr (cs := [42]) (jm_fr_st (c := 42) (by decide)) (by decide) C2
    generalize jm_st M2 42 4 0 = M3 at *
    refine p_210 g1 ?_ (z_ri_eq (fun j _ _ => by rw [f3 93 (by decide)]) g3) hi (by rw [f3 67 (by decide)]; exact hbit) ?_
    · unfold z_p
      rw [f3 68 (by decide), f3 69 (by decide), f3 70 (by decide), f3 71 (by decide)]
      exact z_R_p hz hR
    · intro M4 R4 f4 k33
      have on : ∀ {cs : List Nat} {is : List Int}, (∀ c ∈ cs, c ∉ [1, 2, 3, 4, 5, 6, 7, 8, 9, 10, 11, 12, 13, 14, 15, 42]) → (∀ c ∈ cs, c ∉ [68, 69, 70, 71] ∧ c ≠ 67) → (∀ i ∈ is, i ∉ [(0 : Int), 1, 2, 33]) → z_sa cs is M M4 := fun a1 a2 a3 => z_sa_tr (z_sa_fr f3 a1 (by decide)) (z_sa_fx f4 a2 a3)
      refine ⟨rfl, ⟨w', h', sl', fo', ba', su', g1, z_C_on (z_sa_fx f4 (by decide) (by decide)) C3, R4, Or.inl ⟨?_, k33⟩, z_I_on (on (by decide) (by decide) (by decide)) hI, z_T_on (on (by decide) (by decide) (by decide)) hTa, z_tb_on (on (by decide) (by decide) (by decide)) hbt⟩, z_gh ?_⟩
      · rw [f4.1 42 (by decide) (by decide)]; exact k42
      · rw [f4.1 999 (by decide) (by decide), f3 999 (by decide)]
  by_cases hi : (i = 0 ∨ i = 1) ∧ M 22 i ≠ 0
  · obtain ⟨hi, hm⟩ := hi
    rcases hi with hi | hi
    · subst hi
      have h0 : M 22 0 = 1 := by omega
      obtain ⟨w', h', sl', fo', ba', su', g1, g2, g3⟩ := i4 h0
      refine sc_111 ⟨fun z => by omega, fun _ => ⟨fun _ => ⟨by omega, by omega, fun z => absurd z hm, fun _ => ⟨by omega, by omega, fun _ => p_10_I0 g1 g2 (z_C_o hz hC) (fun M2 C2 f2 => ⟨rfl, sc_53_S ⟨rfl, by omega, by omega, _, rfl, fin 23 w' h' sl' fo' ba' su' M2 (Or.inl rfl) ?_ g1 g3 C2 f2⟩⟩), fun z => absurd rfl z⟩⟩, fun z => by omega⟩⟩
      rw [i3, h0]
      rcases i2 with g | g <;> (rw [g]; decide)
    · subst hi
      have h0 : M 22 1 = 1 := by omega
      obtain ⟨w', h', sl', fo', ba', su', g1, g2, g3⟩ := i5 h0
      refine sc_111 ⟨fun z => by omega, fun _ => ⟨fun _ => ⟨by omega, by omega, fun z => absurd z hm, fun _ => ⟨by omega, by omega, fun z => by omega, fun _ => p_10_I1 g1 g2 (z_C_o hz hC) (fun M2 C2 f2 => ⟨rfl, sc_53_S ⟨rfl, by omega, by omega, _, rfl, fin 28 w' h' sl' fo' ba' su' M2 (Or.inr rfl) ?_ g1 g3 C2 f2⟩⟩)⟩⟩, fun z => by omega⟩⟩
      rw [i3, h0]
      rcases i1 with g | g <;> (rw [g]; decide)
  · refine z_mk hS 0 ?_ ?_
    · intro Q hQ
      have hQ := hQ M (z_q_rfl M)
      refine sc_111 ⟨fun _ => ⟨by omega, by omega, hQ⟩, fun y0 => ⟨fun y1 => ⟨by omega, y1, fun _ => ⟨by omega, by omega, hQ⟩, fun z => absurd ⟨by omega, z⟩ hi⟩, fun _ => ⟨by omega, by omega, hQ⟩⟩⟩
    · intro M1 Q S1 q1 hQ
      have hQ := hQ _ (z_q_0 M1 0)
      refine sc_210 ?_
      rw [e_119]
      refine ⟨_, rfl, fun _ => ⟨by omega, by omega, hQ⟩, fun z => ?_⟩
      have z := jm_Bn.1 z
      refine ⟨z.1, by omega, Or.inl rfl, fun _ => ⟨by omega, by omega, hQ⟩, fun y => absurd ?_ hi⟩
      have e51 : jm_st M1 67 0 0 67 51 = M 67 51 := q1.1.2 51 (by decide)
      rw [e51, i3] at y
      have hii : i = 0 ∨ i = 1 := by omega
      refine ⟨hii, fun q => y ?_⟩
      rcases hii with hii | hii
      · rw [hii] at q ⊢
        rw [q]
        rcases i2 with g | g <;> (rw [g]; decide)
      · rw [hii] at q ⊢
        rw [q]
        rcases i1 with g | g <;> (rw [g]; decide)
end ZA
