/-! SHARED: the class -/
section W1
variable {w h : Int} {sl fo ba : Int → Int}
theorem t_rim {M : jm_Mem} (hT : g_tb w h sl M) : M 1 16 = g_rR w h ∧ ∀ j, 0 ≤ j → j < g_rR w h → M 14 j = g_rn w h j ∧ M 15 j = g_rg w h j := hT.2.2.2.2.2.2.2
theorem p_23 {M : jm_Mem} {n : Int} {Q : jm_Q} (hg : g_sd w h) (hT : g_tb w h sl M) (hQ1 : ∀ k, 0 ≤ k → k < g_rR w h → g_rn w h k = n → Q (some (jm_I k)) M) (hQ0 : (∀ k, 0 ≤ k → k < g_rR w h → g_rn w h k ≠ n) → Q (some (jm_I (-1))) M) : jm_cl 23 [jm_R 1, jm_I n] M Q := by
  obtain ⟨h16, hr⟩ := t_rim hT
  have hb : 4 ≤ g_rR w h ∧ g_rR w h ≤ 20 := by unfold g_rR; unfold g_sd at hg; omega
  have L : ∀ k, k ≤ g_rR w h → 0 ≤ k → (∀ j, 0 ≤ j → j < k → g_rn w h j ≠ n) → jm_run 23 (2, [some (jm_R 1), some (jm_I n), some (jm_I k)], [], M) Q := by
    refine jm_dn ?_
    intro k hk ih k0 hno
    refine sg_23_2 ?_
    rw [h16]
    refine ⟨fun a => ⟨k0, by omega, ?_⟩, fun a => hQ0 (fun j j0 j1 => hno j j0 (by omega))⟩
    rw [(hr k k0 a).1]
    refine ⟨fun b => hQ1 k k0 a b, fun b => ⟨⟨by omega, by omega⟩, ih a (by omega) ?_⟩⟩
    intro j j0 j1
    by_cases q : j = k
    · rw [q]; exact b
    · exact hno j j0 (by omega)
  exact sc_23 (L 0 (by omega) (by omega) (fun j a b => by omega))
theorem p_6 {M : jm_Mem} {a b : Int} {m : Nat} {Q : jm_Q} (hg : g_sd w h) (hT : g_tb w h sl M) (a0 : 0 ≤ a) (a1 : a < g_rR w h) (b0 : 0 ≤ b) (b1 : b < g_rR w h) (hm : (m : Int) < g_rR w h) (hst : g_st w h m a = b) (hno : ∀ j : Nat, j < m → g_st w h j a ≠ b) (hQ : ∀ M', (∀ e, 0 ≤ e → e < 108 → M' 41 e = g_mk w h m a (fun _ => 0) e) → jm_fr [41] M M' → Q none M') : jm_cl 6 [jm_R 39, jm_R 1, jm_I (g_rn w h a), jm_I (g_rn w h b)] M Q := by
  have hb : 4 ≤ g_rR w h ∧ g_rR w h ≤ 20 := by unfold g_rR; unfold g_sd at hg; omega
  have L : ∀ (m' : Nat), ∀ (k x : Int) (M1 : jm_Mem) (f : Int → Int), 0 ≤ k → k + (m' : Int) < g_rR w h → 0 ≤ x → x < g_rR w h → g_st w h m' x = b → (∀ j : Nat, j < m' → g_st w h j x ≠ b) → jm_fr [41] M M1 → (∀ e, 0 ≤ e → e < 108 → M1 41 e = f e) → (∀ e, g_mk w h m a (fun _ => 0) e = g_mk w h m' x f e) → jm_run 6 (10, [some (jm_R 39), some (jm_R 1), some (jm_I (g_rn w h a)), some (jm_I (g_rn w h b)), some (jm_I x), some (jm_I k)], [], M1) Q := by
    intro m'
    induction m' with
    | zero =>
      intro k x M1 f k0 k1 x0 x1 hs hn hf hfe hmk
      have hT1 := g_tb_fr hf (by decide) hT
      obtain ⟨h16, hr⟩ := t_rim hT1
      have hs : x = b := hs
      refine sg_6_10 ?_
      rw [h16, (hr x x0 x1).1]
      have fin : Q none M1 := hQ M1 (fun e e0 e1 => by rw [hmk e]; exact hfe e e0 e1) hf
      exact ⟨fun _ => ⟨fun q => by omega, fun _ => ⟨x0, by omega, fun _ => fin, fun q => absurd (by rw [hs]) q⟩⟩, fun _ => fin⟩
    | succ m' ih =>
      intro k x M1 f k0 k1 x0 x1 hs hn hf hfe hmk
      have hT1 := g_tb_fr hf (by decide) hT
      obtain ⟨h16, hr⟩ := t_rim hT1
      obtain ⟨-, -, -, -, hgb, -, -⟩ := g_rim1 hg x0 x1
      have hxb : x ≠ b := hn 0 (by omega)
      have hnx := g_nx_b hg x0 x1
      refine sg_6_10 ?_
      simp only [jm_st_e, Nat.reduceEqDiff, reduceIte]
      rw [h16, (hr x x0 x1).1, (hr x x0 x1).2]
      have next : jm_run 6 (10, [some (jm_R 39), some (jm_R 1), some (jm_I (g_rn w h a)), some (jm_I (g_rn w h b)), some (jm_I (g_nx w h x)), some (jm_I (k + 1))], [], jm_st M1 41 (g_rg w h x) 1) Q := by
        refine ih (k + 1) (g_nx w h x) _ (jm_up f (g_rg w h x) 1) (by omega) (by omega) hnx.1 hnx.2 hs (fun j hj => hn (j + 1) (by omega)) (jm_fr_tr hf (jm_fr_st (by decide))) ?_ hmk
        intro e e0 e1
        simp only [jm_st_e, reduceIte]
        by_cases q : e = g_rg w h x
        · rw [q, jm_up_s, jm_up_s]
        · rw [jm_up_o q, jm_up_o q]
          exact hfe e e0 e1
      refine ⟨fun _ => ⟨fun q => by omega, fun _ => ⟨x0, by omega, fun q => absurd (g_rim2 hg x0 x1 b0 b1 (Or.inl q)) hxb, fun _ => ⟨x0, by omega, hgb.1, hgb.2, ⟨by omega, by omega⟩, fun c => ⟨⟨by omega, by omega⟩, ⟨by omega, by omega⟩, ?_⟩, fun c => ⟨⟨by omega, by omega⟩, ?_⟩⟩⟩⟩, fun q => by omega⟩
      · have e1 : g_nx w h x = x + 1 := if_pos c
        rw [e1] at next
        exact next
      · have e1 : g_nx w h x = 0 := if_neg c
        rw [e1] at next
        exact next
  refine sc_6 ?_
  refine jm_fill (n := 108) (l := []) rfl rfl (by decide) ⟨rfl, ?_⟩
  have hf0 : jm_fr [41] M (jm_sr M 41 (jm_fl ((108 : Nat) : Int) 0 (M 41))) := jm_fr_sr (by decide)
  have hT0 := g_tb_fr hf0 (by decide) hT
  refine p_23 hg hT0 ?_ ?_
  · intro k k0 k1 hk
    obtain rfl := g_rim2 hg k0 k1 a0 a1 (Or.inl hk)
    refine ⟨_, rfl, L m 0 k _ (fun _ => 0) (by omega) (by omega) k0 k1 hst hno hf0 ?_ (fun e => rfl)⟩
    intro e e0 e1
    simp only [jm_sr_e, reduceIte]
    exact if_pos (by omega)
  · intro q
    exact absurd rfl (q a a0 a1)
def h_rp (s : b_S) (M : jm_Mem) : Prop := ∀ v, 0 ≤ v → v < 74 → M 40 v = (s.1 v).getD 2147483647
theorem p_9 {s : b_S} {M : jm_Mem} {f g W e t : Int} {Q : jm_Q} (f0 : 0 ≤ f) (f1 : f < 74) (g0 : 0 ≤ g) (g1 : g < 74) (hW : -100 ≤ W ∧ W ≤ 100) (hb : b_bd 100 t s) (t0 : 0 ≤ t) (t1 : t ≤ 20000) (hR : h_rp s M) (hQ : ∀ M', h_rp (b_t s (f, g, W, e)) M' → jm_fr [40] M M' → Q (some (jm_I (jm_B (b_ok s.1 f g W = true)))) M') : jm_cl 9 [jm_R 39, jm_I f, jm_I g, jm_I W] M Q := by
  have rf := hR f f0 f1
  have rg := hR g g0 g1
  have no : b_ok s.1 f g W = false → Q (some (jm_I 0)) M := by
    intro hk
    rw [jm_Bf (by rw [hk]; simp), b_t_f (x := (f, g, W, e)) hk] at hQ
    exact hQ M hR (jm_fr_rfl _ _)
  refine sc_9 ⟨f0, f1, fun a => ⟨by omega, by omega, no ?_⟩, fun a => ⟨f0, f1, ?_, g0, g1, fun b => ⟨f0, f1, ?_, g0, g1, by omega, by omega, ?_⟩, fun b => ⟨by omega, by omega, no ?_⟩⟩⟩
  · unfold b_ok
    cases hf : s.1 f with
    | none => rfl
    | some x =>
      rw [hf] at rf
      have := hb f x hf
      simp only [Option.getD_some] at rf
      omega
  · cases hf : s.1 f with
    | none => rw [hf] at rf; exact absurd rf a
    | some x =>
      rw [hf] at rf
      have := hb f x hf
      simp only [Option.getD_some] at rf
      exact ⟨by omega, by omega⟩
  · cases hf : s.1 f with
    | none => rw [hf] at rf; exact absurd rf a
    | some x =>
      rw [hf] at rf
      have := hb f x hf
      simp only [Option.getD_some] at rf
      exact ⟨by omega, by omega⟩
  · have hk : b_ok s.1 f g W = true := by
      unfold b_ok
      cases hf : s.1 f with
      | none => rw [hf] at rf; exact absurd rf a
      | some x =>
        rw [hf] at rf
        simp only [Option.getD_some] at rf
        cases hg : s.1 g with
        | none => rfl
        | some y =>
          rw [hg] at rg
          simp only [Option.getD_some] at rg
          exact decide_eq_true (by omega)
    rw [jm_Bt hk, b_t_t (x := (f, g, W, e)) hk] at hQ
    refine hQ _ ?_ (jm_fr_st (by decide))
    intro v v0 v1
    simp only [jm_st_e, reduceIte]
    by_cases q : v = g
    · rw [q, jm_up_s, b_pt_s]
      obtain ⟨x, hx, hnw, -⟩ := b_ok_t hk
      rw [hx] at rf
      rw [hnw, rf]
      rfl
    · rw [jm_up_o q, b_pt_o q]
      exact hR v v0 v1
  · unfold b_ok
    cases hf : s.1 f with
    | none => rfl
    | some x =>
      rw [hf] at rf
      have hbx := hb f x hf
      simp only [Option.getD_some] at rf
      cases hg : s.1 g with
      | none =>
        rw [hg] at rg
        have : M 40 g = 2147483647 := rg
        omega
      | some y =>
        rw [hg] at rg
        simp only [Option.getD_some] at rg
        exact decide_eq_false (by omega)
theorem e_8 {M : jm_Mem} {f e : Int} (e0 : 0 ≤ e) (e1 : e < 108) (Q : jm_Q) : jm_cl 8 [jm_R 39, jm_I f, jm_I e] M Q ↔ Q (some (jm_I (if f = 72 ∧ M 41 e = 0 then 73 else f))) M := by
  refine jm_cl_e (fun Q hq => sc_8 ?_) Q
  refine ⟨fun a => ⟨e0, e1, fun b => ?_, fun b => ?_⟩, fun a => ?_⟩
  · rwa [if_pos ⟨a, b⟩] at hq
  · rwa [if_neg (fun q => b q.2)] at hq
  · rwa [if_neg (fun q => a q.1)] at hq
theorem p_7 {M : jm_Mem} {Q : jm_Q} {il : Int → Int} {s : b_S} {t : Int} (hg : g_ok w h sl) (hbo : g_bo fo ba) (hT : g_tb w h sl M) (hfo : M 4 = fo) (hba : M 5 = ba) (hil : ∀ e, 0 ≤ e → e < 108 → M 41 e = il e) (hb : b_bd 100 t s) (t0 : 0 ≤ t) (t1 : t + 216 ≤ 20000) (hR : h_rp s M) (hQ : ∀ M', h_rp (b_r (g_ha w h sl fo ba il) s) M' → b_bd 100 (t + 216) (b_r (g_ha w h sl fo ba il) s) → jm_fr [40] M M' → Q (some (jm_I (jm_B (b_fl (g_ha w h sl fo ba il) s = true)))) M') : jm_cl 7 [jm_R 39, jm_R 1] M Q := by
  have L : ∀ (rest pre : List Int), pre ++ rest = g_el w h sl → ∀ (o4 o5 o6 : Option jm_V) (s1 : b_S) (M1 : jm_Mem) (fl : Bool), jm_fr [40] M M1 → h_rp s1 M1 → b_bd 100 (t + 2 * (pre.length : Int)) s1 → b_r (g_ha w h sl fo ba il) s = b_r (b_ar (g_hl w h sl il) (g_hr w h sl il) fo ba rest) s1 → b_fl (g_ha w h sl fo ba il) s = (fl || b_fl (b_ar (g_hl w h sl il) (g_hr w h sl il) fo ba rest) s1) → jm_run 7 (4, [some (jm_R 39), some (jm_R 1), some (jm_I (jm_B (fl = true))), some (jm_I (pre.length : Int)), o4, o5, o6], [], M1) Q := by
    intro rest
    induction rest with
    | nil =>
      intro pre hp o4 o5 o6 s1 M1 fl hf hr hbd h1 h2
      have hT1 := g_tb_fr hf (by decide) hT
      refine sg_7_4 ⟨fun a => absurd a (tb_nil hT1 hp), fun a => ⟨jm_Bb.1, jm_Bb.2, ?_⟩⟩
      have h1 : b_r (g_ha w h sl fo ba il) s = s1 := h1
      have h2 : b_fl (g_ha w h sl fo ba il) s = (fl || false) := h2
      have hln : ((g_el w h sl).length : Int) ≤ 108 - 0 := g_ls_len 0 (by omega)
      rw [← hp, List.append_nil] at hln
      rw [h1, h2, Bool.or_false] at hQ
      exact hQ M1 hr (fun v a ha => by have := hbd v a ha; omega) hf
    | cons e rest ih =>
      intro pre hp o4 o5 o6 s1 M1 fl hf hr hbd h1 h2
      have hT1 := g_tb_fr hf (by decide) hT
      obtain ⟨t1', t2, t3, t4, t5, t6, t7⟩ := tb_cons hg.1 hT1 hp
      obtain ⟨b1, b2, -, -⟩ := g_Eb hg.1 t3
      obtain ⟨d1, d2, d3, d4⟩ := t_E hg.1 hT1 t3
      obtain ⟨c0, c1, c2, c3, c4⟩ := g_h_b (il := il) hg t3
      obtain ⟨o1, o2, o3, o4', o5'⟩ := hbo e
      have m4 : M1 4 = fo := by rw [hf 4 (by decide)]; exact hfo
      have m5 : M1 5 = ba := by rw [hf 5 (by decide)]; exact hba
      have m41 : M1 41 e = il e := by rw [hf 41 (by decide)]; exact hil e b1 b2
      have ih := fun o4 o5 o6 => ih (pre ++ [e]) t6 o4 o5 o6
      rw [t7] at ih
      have k1 : b_bd 100 (t + 2 * (pre.length : Int) + 1) (b_t s1 (g_hl w h sl il e, g_hr w h sl il e, fo e, e)) := b_bd_t (by omega) ⟨o1, o2⟩ hbd
      have k2 : b_bd 100 (t + 2 * ((pre.length : Int) + 1)) (b_t (b_t s1 (g_hl w h sl il e, g_hr w h sl il e, fo e, e)) (g_hr w h sl il e, g_hl w h sl il e, ba e, e)) := by
        rw [show t + 2 * ((pre.length : Int) + 1) = t + 2 * (pre.length : Int) + 1 + 1 by omega]
        exact b_bd_t (by omega) ⟨o3, o4'⟩ k1
      refine sg_7_4 ⟨fun _ => ⟨t4, t5, ?_⟩, fun q => absurd t1' q⟩
      rw [t2, d3, e_8 b1 b2, d4, m41]
      refine ⟨b1, b2, _, rfl, b1, b2, ?_⟩
      rw [e_8 b1 b2, m41, m4]
      refine ⟨_, rfl, b1, b2, ?_⟩
      rw [show (if g_lf w h sl e = 72 ∧ il e = 0 then 73 else g_lf w h sl e) = g_hl w h sl il e from rfl, show (if g_rt w h sl e = 72 ∧ il e = 0 then 73 else g_rt w h sl e) = g_hr w h sl il e from rfl]
      refine p_9 (e := e) (t := t + 2 * (pre.length : Int)) c0 c1 c2 c3 ⟨o1, o2⟩ hbd (by omega) (by omega) hr ?_
      intro M2 hr2 hf2
      have m52 : M2 5 = ba := by rw [hf2 5 (by decide)]; exact m5
      rw [m52]
      refine ⟨_, rfl, jm_Bb.1, jm_Bb.1, b1, b2, ?_⟩
      refine p_9 (e := e) (t := t + 2 * (pre.length : Int) + 1) c2 c3 c0 c1 ⟨o3, o4'⟩ k1 (by omega) (by omega) hr2 ?_
      intro M3 hr3 hf3
      rw [jm_or_B]
      refine ⟨_, rfl, jm_Bb.1, jm_Bb.1, ⟨by omega, by omega⟩, ?_⟩
      rw [jm_or_B, jm_Bc (R := (fl || (b_ok s1.1 (g_hl w h sl il e) (g_hr w h sl il e) (fo e) || b_ok (b_t s1 (g_hl w h sl il e, g_hr w h sl il e, fo e, e)).1 (g_hr w h sl il e) (g_hl w h sl il e) (ba e))) = true) (by rw [Bool.or_eq_true, Bool.or_eq_true, or_assoc])]
      refine ih _ _ _ _ M3 _ (jm_fr_tr (jm_fr_tr hf hf2) hf3) hr3 k2 h1 ?_
      rw [h2]
      show (fl || (_ || (_ || _))) = _
      rw [← Bool.or_assoc, ← Bool.or_assoc]
      rw [Bool.or_assoc fl]
  refine sc_7 ?_
  refine L _ [] rfl none none none s M false (jm_fr_rfl _ _) hR ?_ rfl (Bool.false_or _).symm
  simpa using hb
/-- marks as both make them: one edge of the rim marked, one not -/
theorem g_mk_two (hg : g_ok w h sl) {a b : Int} {m : Nat} (a0 : 0 ≤ a) (a1 : a < g_rR w h) (b0 : 0 ≤ b) (b1 : b < g_rR w h) (hm1 : 1 ≤ m) (hm : (m : Int) < g_rR w h) (hst : g_st w h m a = b) (hno : ∀ j : Nat, j < m → g_st w h j a ≠ b) : g_mk w h m a (fun _ => 0) (g_rg w h a) ≠ 0 ∧ g_mk w h m a (fun _ => 0) (g_rg w h b) = 0 := by
  constructor
  · rw [g_mk_e hg.1, if_pos ⟨0, by omega, rfl⟩]
    decide
  · rw [g_mk_e hg.1, if_neg]
    rintro ⟨j, hj, he⟩
    have hs : 0 ≤ g_st w h j a ∧ g_st w h j a < g_rR w h := by
      rw [g_st_e hg.1 j a0 a1 (by omega)]
      split <;> omega
    exact hno j hj (g_rim2 hg.1 hs.1 hs.2 b0 b1 (Or.inr he))
theorem p_5 {M : jm_Mem} {a b : Int} {m : Nat} {Q : jm_Q} (hg : g_ok w h sl) (hbo : g_bo fo ba) (hc : g_circ w h sl fo ba) (hT : g_tb w h sl M) (hfo : M 4 = fo) (hba : M 5 = ba) (a0 : 0 ≤ a) (a1 : a < g_rR w h) (b0 : 0 ≤ b) (b1 : b < g_rR w h) (hm1 : 1 ≤ m) (hm : (m : Int) < g_rR w h) (hst : g_st w h m a = b) (hno : ∀ j : Nat, j < m → g_st w h j a ≠ b) (hQ : ∀ M', jm_fr [40, 41] M M' → Q (some (jm_I (g_sv w h sl fo ba (g_mk w h m a (fun _ => 0))))) M') : jm_cl 5 [jm_R 39, jm_R 1, jm_I (g_rn w h a), jm_I (g_rn w h b)] M Q := by
  have hN := g_fs_len (w := w) (h := h) (sl := sl)
  obtain ⟨k1, k2⟩ := g_mk_two hg a0 a1 b0 b1 hm1 hm hst hno
  obtain ⟨E1, O1⟩ := g_rim_E (sl := sl) hg.1 a0 a1
  obtain ⟨E2, O2⟩ := g_rim_E (sl := sl) hg.1 b0 b1
  generalize hil : g_mk w h m a (fun _ => 0) = il at k1 k2 hQ
  refine sc_5 ?_
  refine p_6 hg.1 hT a0 a1 b0 b1 hm hst hno ?_
  intro M1 h41 hf1
  refine ⟨rfl, ?_⟩
  refine jm_fill (n := 74) (l := []) rfl rfl (by decide) ⟨rfl, by omega, by omega, ?_⟩
  have fin : ∀ (n : Nat) (M2 : jm_Mem), jm_fr [40, 41] M M2 → h_rp (b_n (g_ha w h sl fo ba il) n (b_0 72)) M2 → b_fl (g_ha w h sl fo ba il) (b_n (g_ha w h sl fo ba il) n (b_0 72)) = false → Q (some (jm_I (M2 40 73))) M2 := by
    intro n M2 hf hr hfl
    rw [hr 73 (by omega) (by omega), g_sv_of hg hc E1 O1 k1 E2 O2 k2 hfl]
    exact hQ M2 hf
  have L : ∀ k, k ≤ ((g_fs w h sl).length : Int) + 2 → ∀ (n : Nat) (M2 : jm_Mem) (fl : Bool), k = (n : Int) → jm_fr [40, 41] M M2 → jm_fr [40] M1 M2 → h_rp (b_n (g_ha w h sl fo ba il) n (b_0 72)) M2 → b_bd 100 (216 * (n : Int)) (b_n (g_ha w h sl fo ba il) n (b_0 72)) → (fl = false → b_fl (g_ha w h sl fo ba il) (b_n (g_ha w h sl fo ba il) n (b_0 72)) = false) → jm_run 5 (18, [some (jm_R 39), some (jm_R 1), some (jm_I (g_rn w h a)), some (jm_I (g_rn w h b)), some (jm_I (jm_B (fl = true))), some (jm_I k)], [], M2) Q := by
    refine jm_dn ?_
    intro k hk ih n M2 fl hkn hf hf1' hr hbd hfl
    have hT2 := g_tb_fr hf (by decide) hT
    refine sg_5_18 ?_
    rw [t_fc hg hT2]
    refine ⟨⟨by omega, by omega⟩, fun c => ⟨by omega, by omega, fin n M2 hf hr (g_ha_end hg hc (by omega))⟩, fun c => ⟨fun d => ⟨by omega, by omega, ?_⟩, fun d => ?_⟩⟩
    · rw [jm_B0, Bool.not_eq_true] at d
      exact fin n M2 hf hr (hfl d)
    · refine p_7 (il := il) (t := 216 * (n : Int)) hg hbo hT2 (by rw [hf 4 (by decide)]; exact hfo) (by rw [hf 5 (by decide)]; exact hba) (fun e e0 e1 => by rw [hf1' 41 (by decide), h41 e e0 e1, hil]) hbd (by omega) (by omega) hr ?_
      intro M3 hr3 hbd3 hf3
      refine ⟨_, rfl, ⟨by omega, by omega⟩, ih (by omega) (n + 1) M3 _ (by omega) (jm_fr_tr hf (jm_fr_mo hf3 (by decide))) (jm_fr_tr hf1' hf3) hr3 ?_ ?_⟩
      · rw [show 216 * ((n + 1 : Nat) : Int) = 216 * (n : Int) + 216 by omega]
        exact hbd3
      · intro q
        exact b_n_stop2 q (Nat.le_succ n)
  have hf2 : jm_fr [40] M1 (jm_st (jm_sr M1 40 (jm_fl ((74 : Nat) : Int) 2147483647 (M1 40))) 40 72 0) := jm_fr_tr (jm_fr_sr (by decide)) (jm_fr_st (by decide))
  refine L 0 (by omega) 0 _ true rfl (jm_fr_tr (jm_fr_mo hf1 (by decide)) (jm_fr_mo hf2 (by decide))) hf2 ?_ (b_bd_0 _ _ _ (by omega)) (fun q => by cases q)
  intro v v0 v1
  simp only [jm_st_e, jm_sr_e, reduceIte]
  show _ = ((b_0 72).1 v).getD 2147483647
  unfold b_0 jm_fl
  dsimp only
  by_cases q : v = 72
  · rw [q, jm_up_s, if_pos rfl]
    rfl
  · rw [jm_up_o q, if_neg q, if_pos (by omega)]
    rfl
end W1
