/-! THE REFERENCE: rounds of costs with hops -/
theorem p_158_94 {x1 x2 x4 e x6 x7 : Int} {fl f1 f2 : Bool} {o9 : Option jm_V} {M : jm_Mem} {Q : jm_Q} (e0 : 0 ≤ e) (e1 : e < 108) (hK : ∀ o6 o7 o8 o9, jm_run 158 (40, [some (jm_R 67), some (jm_I x1), some (jm_I x2), some (jm_I (jm_B ((fl || (f1 || f2)) = true))), some (jm_I x4), some (jm_I (e + 1)), o6, o7, o8, o9], [], M) Q) : jm_run 158 (94, [some (jm_R 67), some (jm_I x1), some (jm_I x2), some (jm_I (jm_B (fl = true))), some (jm_I x4), some (jm_I e), some (jm_I x6), some (jm_I x7), some (jm_I (jm_B (f1 = true))), o9], [jm_I (jm_B (f2 = true))], M) Q := by
  have hin : jm_in (e + 1) := ⟨by omega, by omega⟩
  cases fl <;> cases f1 <;> cases f2
  · exact sg_158_94 ⟨fun _ => ⟨fun _ => ⟨fun _ => ⟨hin, hK _ _ _ _⟩, fun q => absurd rfl q⟩, fun q => absurd rfl q⟩, fun q => absurd rfl q⟩
  · exact sg_158_94 ⟨fun _ => ⟨fun _ => ⟨fun q => absurd q (by decide), fun _ => sg_158_101 ⟨hin, hK _ _ _ _⟩⟩, fun q => absurd rfl q⟩, fun q => absurd rfl q⟩
  · exact sg_158_94 ⟨fun _ => ⟨fun q => absurd q (by decide), fun _ => sg_158_101 ⟨hin, hK _ _ _ _⟩⟩, fun q => absurd rfl q⟩
  · exact sg_158_94 ⟨fun _ => ⟨fun q => absurd q (by decide), fun _ => sg_158_101 ⟨hin, hK _ _ _ _⟩⟩, fun q => absurd rfl q⟩
  · exact sg_158_94 ⟨fun q => absurd q (by decide), fun _ => sg_158_101 ⟨hin, hK _ _ _ _⟩⟩
  · exact sg_158_94 ⟨fun q => absurd q (by decide), fun _ => sg_158_101 ⟨hin, hK _ _ _ _⟩⟩
  · exact sg_158_94 ⟨fun q => absurd q (by decide), fun _ => sg_158_101 ⟨hin, hK _ _ _ _⟩⟩
  · exact sg_158_94 ⟨fun q => absurd q (by decide), fun _ => sg_158_101 ⟨hin, hK _ _ _ _⟩⟩
/-- the arcs of the reference's runs -/
def x_ar (w h : Int) (sl fo ba : Int → Int) (hv : Int) (ih : Int → Int) (ag : Int) (l : List Int) : List b_A := if ag = 0 then b_ar (g_ln w h sl hv ih) (g_rn' w h sl hv ih) (fun e => 65536 * fo e + 1) (fun e => 65536 * ba e + 1) l else b_ar (g_rn' w h sl hv ih) (g_ln w h sl hv ih) (fun e => 65536 * fo e + 1) (fun e => 65536 * ba e + 1) l
theorem p_158_40 {w h : Int} {sl fo ba : Int → Int} {hv : Int} {ih : Int → Int} {ag x1 x4 t : Int} {s : b_S} {M : jm_Mem} {Q : jm_Q} (hg : g_ok w h sl) (hbo : g_bo fo ba) (t0 : 0 ≤ t) (t1 : t + 216 ≤ 20000) (k4 : 0 ≤ x4) (k5 : x4 ≤ 74) (hX : r_X w h sl M) (hfo : M 69 = fo) (hba : M 70 = ba) (hhv : M 67 24 = hv) (hih : M 76 = ih) (hQ : ∀ (M' : jm_Mem) o5 o6 o7 o8 o9, jm_fr [74, 75] M M' → x_rp (b_r (x_ar w h sl fo ba hv ih ag (g_el w h sl)) s) M' → x_bd (t + 216) (b_r (x_ar w h sl fo ba hv ih ag (g_el w h sl)) s) → jm_run 158 (31, [some (jm_R 67), some (jm_I x1), some (jm_I ag), some (jm_I (jm_B (b_fl (x_ar w h sl fo ba hv ih ag (g_el w h sl)) s = true))), some (jm_I (x4 + 1)), o5, o6, o7, o8, o9], [], M') Q) : ∀ e, e ≤ 108 → 0 ≤ e → ∀ (o6 o7 o8 o9 : Option jm_V) (s1 : b_S) (M1 : jm_Mem) (fl : Bool), jm_fr [74, 75] M M1 → x_rp s1 M1 → x_bd (t + 2 * e) s1 → b_r (x_ar w h sl fo ba hv ih ag (g_el w h sl)) s = b_r (x_ar w h sl fo ba hv ih ag (g_ls (fun e => g_E w h sl e) 108 e)) s1 → b_fl (x_ar w h sl fo ba hv ih ag (g_el w h sl)) s = (fl || b_fl (x_ar w h sl fo ba hv ih ag (g_ls (fun e => g_E w h sl e) 108 e)) s1) → jm_run 158 (40, [some (jm_R 67), some (jm_I x1), some (jm_I ag), some (jm_I (jm_B (fl = true))), some (jm_I x4), some (jm_I e), o6, o7, o8, o9], [], M1) Q := by
  refine jm_dn ?_
  intro e he ihe e0 o6 o7 o8 o9 s1 M1 fl hf hr hbd h1 h2
  have hX1 : r_X w h sl M1 := by
    unfold r_X at hX ⊢
    rw [hf 67 (by decide), hf 68 (by decide)]
    exact hX
  have m4 : M1 69 = fo := by rw [hf 69 (by decide)]; exact hfo
  have m5 : M1 70 = ba := by rw [hf 70 (by decide)]; exact hba
  have m24 : M1 67 24 = hv := by rw [hf 67 (by decide)]; exact hhv
  have m76 : M1 76 = ih := by rw [hf 76 (by decide)]; exact hih
  refine sg_158_40 ⟨fun a => ?_, fun a => ⟨⟨by omega, by omega⟩, ?_⟩⟩
  · rw [r_124 hg.1 hX1]
    refine ⟨_, rfl, fun b => ⟨⟨by omega, by omega⟩, ?_⟩, fun b => ?_⟩
    · rw [jm_B0] at b
      rw [g_ls_n a b] at h1 h2
      exact ihe a (by omega) _ _ _ _ s1 M1 fl hf hr (fun v b hb => by have := hbd v b hb; omega) h1 h2
    · rw [jm_Bn] at b
      obtain ⟨o1, o2, o3, o4, o5⟩ := hbo e
      obtain ⟨c1, c2, c3, c4⟩ := g_ln_b hg hv ih b
      rw [g_ls_y a b] at h1 h2
      rw [r_154 hg.1 hX1 b, m24, m76]
      refine ⟨_, rfl, ?_⟩
      rw [r_155 hg.1 hX1 b, m24, m76, m4]
      have go : ∀ (p q : Int → Int), 0 ≤ p e → p e < 74 → 0 ≤ q e → q e < 74 → (∀ l, x_ar w h sl fo ba hv ih ag l = b_ar p q (fun e => 65536 * fo e + 1) (fun e => 65536 * ba e + 1) l) → ∀ x6 x7 o9, jm_cl 157 [jm_R 67, jm_I (p e), jm_I (q e), jm_I (fo e)] M1 (fun r M4 => ∃ r4 : Int, r = some (jm_I r4) ∧ jm_cl 157 [jm_R 67, jm_I (q e), jm_I (p e), jm_I (M4 70 e)] M4 (fun r M5 => ∃ r5 : Int, r = some (jm_I r5) ∧ jm_run 158 (94, [some (jm_R 67), some (jm_I x1), some (jm_I ag), some (jm_I (jm_B (fl = true))), some (jm_I x4), some (jm_I e), some (jm_I x6), some (jm_I x7), some (jm_I r4), o9], [jm_I r5], M5) Q)) := by
        intro p q p0 p1 q0 q1 hpq x6 x7 o9
        refine p_157 (e := e) (t := t + 2 * e) p0 p1 q0 q1 ⟨o1, o2⟩ hbd (by omega) (by omega) hr ?_
        intro M2 hr2 hf2
        refine ⟨_, rfl, ?_⟩
        have m52 : M2 70 = ba := by rw [hf2 70 (by decide)]; exact m5
        rw [m52]
        have k1 := x_bd_t (f := p e) (g := q e) (e := e) ⟨o1, o2⟩ (show t + 2 * e + 1 < 65536 by omega) hbd
        refine p_157 (e := e) (t := t + 2 * e + 1) q0 q1 p0 p1 ⟨o3, o4⟩ k1 (by omega) (by omega) hr2 ?_
        intro M3 hr3 hf3
        refine ⟨_, rfl, ?_⟩
        have k2 := x_bd_t (f := q e) (g := p e) (e := e) ⟨o3, o4⟩ (show t + 2 * e + 1 + 1 < 65536 by omega) k1
        refine p_158_94 e0 a ?_
        intro o6 o7 o8 o9
        refine ihe a (by omega) _ _ _ _ _ M3 _ (jm_fr_tr (jm_fr_tr hf hf2) hf3) hr3 ?_ ?_ ?_
        · rw [show t + 2 * (e + 1) = t + 2 * e + 1 + 1 by omega]
          exact k2
        · rw [h1, hpq, hpq]
          rfl
        · rw [h2, hpq, hpq]
          show (fl || (_ || (_ || _))) = _
          rw [← Bool.or_assoc, ← Bool.or_assoc]
          rw [Bool.or_assoc fl]
      by_cases hag : ag = 0
      · have g1 := go (g_ln w h sl hv ih) (g_rn' w h sl hv ih) c1 c2 c3 c4 (fun l => by unfold x_ar; rw [if_pos hag])
        refine ⟨_, rfl, fun _ => ⟨e0, a, jm_cl_mono (g1 (g_ln w h sl hv ih e) (g_rn' w h sl hv ih e) o9) ?_⟩, fun q => absurd hag q⟩
        rintro r M4 ⟨r4, q1, q2⟩
        exact ⟨r4, q1, fun _ => ⟨e0, a, q2⟩, fun q => absurd hag q⟩
      · have g1 := go (g_rn' w h sl hv ih) (g_ln w h sl hv ih) c3 c4 c1 c2 (fun l => by unfold x_ar; rw [if_neg hag])
        refine ⟨_, rfl, fun q => absurd q hag, fun _ => ⟨e0, a, jm_cl_mono (g1 (g_ln w h sl hv ih e) (g_rn' w h sl hv ih e) o9) ?_⟩⟩
        rintro r M4 ⟨r4, q1, q2⟩
        exact ⟨r4, q1, fun q => absurd q hag, fun _ => ⟨e0, a, q2⟩⟩
  · have hz : ∀ l, l = [] → x_ar w h sl fo ba hv ih ag l = [] := by
      intro l hl
      rw [hl]
      unfold x_ar
      split <;> rfl
    rw [hz (g_ls (fun e => g_E w h sl e) 108 e) (g_ls_z (by omega))] at h1 h2
    have h1 : b_r (x_ar w h sl fo ba hv ih ag (g_el w h sl)) s = s1 := h1
    have h2 : b_fl (x_ar w h sl fo ba hv ih ag (g_el w h sl)) s = (fl || false) := h2
    rw [Bool.or_false] at h2
    rw [h1, h2] at hQ
    exact hQ M1 _ _ _ _ _ hf hr (fun v b hb => by have := hbd v b hb; omega)
theorem p_158 {w h : Int} {sl fo ba : Int → Int} {hv : Int} {ih : Int → Int} {ag s0 : Int} {M : jm_Mem} {Q : jm_Q} (hg : g_ok w h sl) (hbo : g_bo fo ba) (hX : r_X w h sl M) (hfo : M 69 = fo) (hba : M 70 = ba) (hhv : M 67 24 = hv) (hih : M 76 = ih) (z0 : 0 ≤ s0) (z1 : s0 < 74) (hQ1 : ∀ (k : Nat) (M' : jm_Mem), k ≤ 75 → b_fl (x_ar w h sl fo ba hv ih ag (g_el w h sl)) (b_n (x_ar w h sl fo ba hv ih ag (g_el w h sl)) k (b_0 s0)) = false → x_rp (b_n (x_ar w h sl fo ba hv ih ag (g_el w h sl)) k (b_0 s0)) M' → jm_fr [74, 75] M M' → Q (some (jm_I 1)) M') (hQ0 : ∀ M', b_fl (x_ar w h sl fo ba hv ih ag (g_el w h sl)) (b_n (x_ar w h sl fo ba hv ih ag (g_el w h sl)) 74 (b_0 s0)) = true → jm_fr [74, 75] M M' → Q (some (jm_I 0)) M') : jm_cl 158 [jm_R 67, jm_I s0, jm_I ag] M Q := by
  generalize hA : x_ar w h sl fo ba hv ih ag (g_el w h sl) = A at hQ1 hQ0
  have L : ∀ k, k ≤ 75 → ∀ (n : Nat) (M1 : jm_Mem) (fl : Bool) (o5 o6 o7 o8 o9 : Option jm_V), k = (n : Int) → jm_fr [74, 75] M M1 → x_rp (b_n A n (b_0 s0)) M1 → x_bd (216 * (n : Int)) (b_n A n (b_0 s0)) → (fl = false → b_fl A (b_n A n (b_0 s0)) = false) → (fl = true → ∀ j, n = j + 1 → b_fl A (b_n A j (b_0 s0)) = true) → jm_run 158 (31, [some (jm_R 67), some (jm_I s0), some (jm_I ag), some (jm_I (jm_B (fl = true))), some (jm_I k), o5, o6, o7, o8, o9], [], M1) Q := by
    refine jm_dn ?_
    intro k hk ihk n M1 fl o5 o6 o7 o8 o9 hkn hf hr hbd hfl hfl2
    have hX1 : r_X w h sl M1 := by
      unfold r_X at hX ⊢
      rw [hf 67 (by decide), hf 68 (by decide)]
      exact hX
    refine sg_158_31 ⟨fun a => ⟨fun b => ⟨by omega, by omega, ?_⟩, fun b => ⟨by omega, by omega, ?_⟩⟩, fun a => ⟨fun b => ⟨fun _ => ⟨by omega, by omega, ?_⟩, fun q => absurd b q⟩, fun b => ?_⟩⟩
    · rw [jm_B0, Bool.not_eq_true] at b
      exact hQ1 n M1 (by omega) (hfl b) hr hf
    · rw [jm_Bn] at b
      exact hQ0 M1 (hfl2 b 74 (by omega)) hf
    · rw [jm_B0, Bool.not_eq_true] at b
      exact hQ1 n M1 (by omega) (hfl b) hr hf
    · have := p_158_40 (w := w) (h := h) (sl := sl) (fo := fo) (ba := ba) (hv := hv) (ih := ih) (ag := ag) (x1 := s0) (x4 := k) (t := 216 * (n : Int)) (s := b_n A n (b_0 s0)) (M := M1) (Q := Q) hg hbo (by omega) (by omega) (by omega) (by omega) hX1 (by rw [hf 69 (by decide)]; exact hfo) (by rw [hf 70 (by decide)]; exact hba) (by rw [hf 67 (by decide)]; exact hhv) (by rw [hf 76 (by decide)]; exact hih) (by
        rw [hA]
        intro M2 p5 p6 p7 p8 p9 q1 q2 q3
        refine ihk (by omega) (n + 1) M2 _ _ _ _ _ _ (by omega) (jm_fr_tr hf q1) q2 ?_ ?_ ?_
        · rw [show 216 * ((n + 1 : Nat) : Int) = 216 * (n : Int) + 216 by omega]
          exact q3
        · intro q
          exact b_n_stop2 q (Nat.le_succ n)
        · intro q j hj
          obtain rfl : n = j := by omega
          exact q)
      refine this 0 (by omega) (by omega) _ _ _ _ (b_n A n (b_0 s0)) M1 false (jm_fr_rfl _ _) hr ?_ rfl (Bool.false_or _).symm
      rw [show 216 * (n : Int) + 2 * 0 = 216 * (n : Int) by omega]
      exact hbd
  have L0 : ∀ f, f ≤ 74 → 0 ≤ f → ∀ M1 : jm_Mem, jm_fr [74, 75] M M1 → (∀ v, 0 ≤ v → v < f → M1 74 v = 100000000 ∧ M1 75 v = 100000000) → jm_run 158 (2, [some (jm_R 67), some (jm_I s0), some (jm_I ag), some (jm_I f), none, none, none, none, none, none], [], M1) Q := by
    refine jm_dn ?_
    intro f hf ihf f0 M1 hfr hv1
    refine sg_158_2 ⟨fun a => ⟨z0, z1, z0, z1, ?_⟩, fun a => ⟨f0, by omega, f0, by omega, ⟨by omega, by omega⟩, ihf (by omega) (by omega) _ ?_ ?_⟩⟩
    · refine L 0 (by omega) 0 _ true _ _ _ _ _ rfl ?_ ?_ ?_ (fun q => by cases q) (fun _ j hj => by omega)
      · exact jm_fr_tr hfr (jm_fr_tr (jm_fr_st (by decide)) (jm_fr_st (by decide)))
      · intro v v0 v1
        simp only [jm_st_e, Nat.reduceEqDiff, reduceIte]
        show _ = b_co ((b_0 s0).1 v) ∧ _ = b_ho ((b_0 s0).1 v)
        unfold b_0
        dsimp only
        by_cases q : v = s0
        · rw [q, jm_up_s, jm_up_s, if_pos rfl]
          exact ⟨rfl, rfl⟩
        · rw [jm_up_o q, jm_up_o q, if_neg q]
          exact hv1 v v0 (by omega)
      · intro v b hb
        have hb : (b_0 s0).1 v = some b := hb
        unfold b_0 at hb
        dsimp only at hb
        split at hb
        · injection hb with hb
          omega
        · cases hb
    · exact jm_fr_tr hfr (jm_fr_tr (jm_fr_st (by decide)) (jm_fr_st (by decide)))
    · intro v v0 v1
      simp only [jm_st_e, Nat.reduceEqDiff, reduceIte]
      by_cases q : v = f
      · rw [q, jm_up_s, jm_up_s]
        exact ⟨rfl, rfl⟩
      · rw [jm_up_o q, jm_up_o q]
        exact hv1 v v0 (by omega)
  exact sc_158 (L0 0 (by omega) (by omega) M (jm_fr_rfl _ _) (fun v a b => by omega))
