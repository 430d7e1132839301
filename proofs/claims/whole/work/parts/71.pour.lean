/-! POURING: till nothing more is given, or no way is left -/
def k_pr (w h : Int) (sl fo ba : Int → Int) (s : Int) : Nat → Int → k_S → Int × k_S
  | 0, rest, σ => (rest, σ)
  | f + 1, rest, σ => if 0 < rest then (match k_way w h sl fo ba σ.1 σ.2.1 s with
    | none => (rest, σ)
    | some st => k_pr w h sl fo ba s f (rest - k_by sl fo ba st rest σ) (k_pu sl s st (k_by sl fo ba st rest σ) σ)) else (rest, σ)
def k_po (w h : Int) (sl fo ba : Int → Int) (s rest : Int) (σ : k_S) : Int × k_S := k_pr w h sl fo ba s (rest.toNat + 1) rest σ
section Q2
variable {w h : Int} {sl fo ba : Int → Int} {σ : k_S} {s : Int}
theorem k_pr_fuel (hg : g_ok w h sl) (hs : g_nd w h s) : ∀ (f f' : Nat) (rest K : Int) (σ : k_S), rest < (f : Int) → rest < (f' : Int) → k_iv w h sl fo ba K σ → k_pr w h sl fo ba s f rest σ = k_pr w h sl fo ba s f' rest σ := by
  intro f
  induction f with
  | zero =>
    intro f' rest K σ h1 h2 _
    cases f' with
    | zero => rfl
    | succ f' =>
      show (rest, σ) = if 0 < rest then _ else (rest, σ)
      rw [if_neg (by omega)]
  | succ f ih =>
    intro f' rest K σ h1 h2 hiv
    cases f' with
    | zero =>
      show (if 0 < rest then _ else (rest, σ)) = (rest, σ)
      rw [if_neg (by omega)]
    | succ f' =>
      show (if 0 < rest then _ else (rest, σ)) = (if 0 < rest then _ else (rest, σ))
      by_cases hr : 0 < rest
      · rw [if_pos hr, if_pos hr]
        cases hw : k_way w h sl fo ba σ.1 σ.2.1 s with
        | none => rfl
        | some st =>
          have hb := k_by_b hg hs hiv.1 hr hw
          exact ih f' _ (K + k_by sl fo ba st rest σ) _ (by omega) (by omega) (k_iv_pu hg hs hiv hr hw)
      · rw [if_neg hr, if_neg hr]
theorem k_po_0 {rest : Int} (hr : ¬ 0 < rest) : k_po w h sl fo ba s rest σ = (rest, σ) := by
  unfold k_po
  show (if 0 < rest then _ else (rest, σ)) = _
  rw [if_neg hr]
theorem k_po_n {rest : Int} (hw : k_way w h sl fo ba σ.1 σ.2.1 s = none) : k_po w h sl fo ba s rest σ = (rest, σ) := by
  unfold k_po
  show (if 0 < rest then (match k_way w h sl fo ba σ.1 σ.2.1 s with
    | none => (rest, σ)
    | some st => _) else (rest, σ)) = _
  rw [hw]
  split <;> rfl
theorem k_po_s (hg : g_ok w h sl) (hs : g_nd w h s) {rest K : Int} {st : List k_F} (hiv : k_iv w h sl fo ba K σ) (hr : 0 < rest) (hw : k_way w h sl fo ba σ.1 σ.2.1 s = some st) : k_po w h sl fo ba s rest σ = k_po w h sl fo ba s (rest - k_by sl fo ba st rest σ) (k_pu sl s st (k_by sl fo ba st rest σ) σ) := by
  have hb := k_by_b hg hs hiv.1 hr hw
  unfold k_po
  show (if 0 < rest then (match k_way w h sl fo ba σ.1 σ.2.1 s with
    | none => (rest, σ)
    | some st => k_pr w h sl fo ba s rest.toNat (rest - k_by sl fo ba st rest σ) (k_pu sl s st (k_by sl fo ba st rest σ) σ)) else (rest, σ)) = _
  rw [if_pos hr, hw]
  exact k_pr_fuel hg hs _ _ _ (K + k_by sl fo ba st rest σ) _ (by omega) (by omega) (k_iv_pu hg hs hiv hr hw)
/-- what is known behind it -/
theorem k_po_iv (hg : g_ok w h sl) (hs : g_nd w h s) : ∀ (n : Nat) (rest K : Int) (σ : k_S), rest = (n : Int) → k_iv w h sl fo ba K σ → k_iv w h sl fo ba (K + (rest - (k_po w h sl fo ba s rest σ).1)) (k_po w h sl fo ba s rest σ).2 ∧ 0 ≤ (k_po w h sl fo ba s rest σ).1 ∧ (k_po w h sl fo ba s rest σ).1 ≤ rest := by
  intro n
  induction n using Nat.strongRecOn with
  | ind n ih =>
    intro rest K σ hn hiv
    have stop : k_po w h sl fo ba s rest σ = (rest, σ) → k_iv w h sl fo ba (K + (rest - (k_po w h sl fo ba s rest σ).1)) (k_po w h sl fo ba s rest σ).2 ∧ 0 ≤ (k_po w h sl fo ba s rest σ).1 ∧ (k_po w h sl fo ba s rest σ).1 ≤ rest := by
      intro q
      rw [q]
      refine ⟨?_, by show 0 ≤ rest; omega, Int.le_refl _⟩
      show k_iv w h sl fo ba (K + (rest - rest)) σ
      rw [Int.sub_self, Int.add_zero]
      exact hiv
    by_cases hr : 0 < rest
    · cases hw : k_way w h sl fo ba σ.1 σ.2.1 s with
      | none => exact stop (k_po_n hw)
      | some st =>
        have hb := k_by_b hg hs hiv.1 hr hw
        rw [k_po_s hg hs hiv hr hw]
        obtain ⟨i1, i2, i3⟩ := ih (rest - k_by sl fo ba st rest σ).toNat (by omega) (rest - k_by sl fo ba st rest σ) (K + k_by sl fo ba st rest σ) _ (by omega) (k_iv_pu hg hs hiv hr hw)
        refine ⟨?_, i2, by omega⟩
        rw [show K + (rest - (k_po w h sl fo ba s (rest - k_by sl fo ba st rest σ) (k_pu sl s st (k_by sl fo ba st rest σ) σ)).1) = K + k_by sl fo ba st rest σ + (rest - k_by sl fo ba st rest σ - (k_po w h sl fo ba s (rest - k_by sl fo ba st rest σ) (k_pu sl s st (k_by sl fo ba st rest σ) σ)).1) by omega]
        exact i1
    · exact stop (k_po_0 hr)
end Q2
/-- the state where a flow begins: potentials -/
def k_s0 (w h : Int) (sl fo ba wt : Int → Int) : k_S := (fun e => g_pt w h sl fo ba (g_rt w h sl e) - g_pt w h sl fo ba (g_lf w h sl e), wt, fun _ => 0, 0, 0, 0)
theorem k_s0_cap {w h : Int} {sl fo ba wt : Int → Int} (hg : g_ok w h sl) (hc : g_circ w h sl fo ba) : k_cap w h sl fo ba (k_s0 w h sl fo ba wt).1 := by
  intro e he
  have := g_pt_pot hg hc he
  show -(ba e) ≤ g_pt w h sl fo ba (g_rt w h sl e) - g_pt w h sl fo ba (g_lf w h sl e) ∧ g_pt w h sl fo ba (g_rt w h sl e) - g_pt w h sl fo ba (g_lf w h sl e) ≤ fo e
  omega
theorem k_s0_iv {w h : Int} {sl fo ba wt : Int → Int} (hg : g_ok w h sl) (hc : g_circ w h sl fo ba) (hw : ∀ n, g_nd w h n → 0 ≤ wt n ∧ wt n ≤ 1000000) : k_iv w h sl fo ba 0 (k_s0 w h sl fo ba wt) := ⟨k_s0_cap hg hc, hw, fun n _ => (by show -(0 : Int) ≤ 0 ∧ (0 : Int) ≤ 0; omega), Int.le_refl _, Int.le_refl _, Int.le_refl _, (by show (0 : Int) ≤ 36; omega)⟩
section OS
variable {w h : Int} {sl fo ba : Int → Int} {s : Int}
theorem p_58_S {M : jm_Mem} {lim K : Int} {σ : k_S} {Q : jm_Q} (hg : g_ok w h sl) (hbo : g_bo fo ba) (hs : g_nd w h s) (hT : g_tb w h sl M) (hfo : M 4 = fo) (hba : M 5 = ba) (hiv : k_iv w h sl fo ba K σ) (hK0 : 0 ≤ K) (hK : K + lim ≤ 100000000) (hl0 : 0 ≤ lim) (hl : lim ≤ 1000000) (ht : t_rp_S w h sl σ M) (hQ : ∀ M', t_rp_S w h sl (k_po w h sl fo ba s lim σ).2 M' → jm_fr [42, 43, 44, 45, 46, 47, 48, 49, 50, 51] M M' → (∀ i, i ≠ 7 → i ≠ 8 → i ≠ 9 → M' 42 i = M 42 i) → Q (some (jm_I (lim - (k_po w h sl fo ba s lim σ).1))) M') : jm_cl 58 [jm_R 42, jm_R 1, jm_I s, jm_I lim] M Q := by
  have L : ∀ (n : Nat) (rest i : Int) (σ1 : k_S) (K1 : Int) (M1 : jm_Mem), rest = (n : Int) → 0 ≤ i → i + rest ≤ lim → K1 + rest ≤ K + lim → 0 ≤ K1 → k_iv w h sl fo ba K1 σ1 → t_rp_S w h sl σ1 M1 → jm_fr [42, 43, 44, 45, 46, 47, 48, 49, 50, 51] M M1 → (∀ i, i ≠ 7 → i ≠ 8 → i ≠ 9 → M1 42 i = M 42 i) → k_po w h sl fo ba s lim σ = k_po w h sl fo ba s rest σ1 → jm_run 58 (4, [some (jm_R 42), some (jm_R 1), some (jm_I s), some (jm_I lim), some (jm_I rest), some (jm_I i)], [], M1) Q := by
    intro n
    induction n using Nat.strongRecOn with
    | ind n ih =>
      intro rest i σ1 K1 M1 hn i0 hi hK1 hK10 hiv1 ht1 hf h42 hpo
      have hT1 := g_tb_fr hf (by decide) hT
      have m4 : M1 4 = fo := by rw [hf 4 (by decide)]; exact hfo
      have m5 : M1 5 = ba := by rw [hf 5 (by decide)]; exact hba
      have stop : ∀ M2, k_po w h sl fo ba s rest σ1 = (rest, σ1) → t_rp_S w h sl σ1 M2 → jm_fr [42, 43, 44, 45, 46, 47, 48, 49, 50, 51] M M2 → (∀ i, i ≠ 7 → i ≠ 8 → i ≠ 9 → M2 42 i = M 42 i) → jm_in (lim - rest) ∧ Q (some (jm_I (lim - rest))) M2 := by
        intro M2 q ht2 hf2 h422
        rw [hpo, q] at hQ
        exact ⟨⟨by omega, by omega⟩, hQ M2 ht2 hf2 h422⟩
      refine sg_58_4_S ⟨fun a => ⟨fun b => ?_, fun b => stop M1 (k_po_0 b) ht1 hf h42⟩, fun a => ?_⟩
      · refine p_50_S (rn := σ1.1) (wt := σ1.2.1) hg hbo hT1 m4 m5 (fun e he => ⟨ht1.1 e he, by have h1 := hiv1.1 e he; have h2 := hbo e; omega⟩) (fun m hm => (ht1.2.1 m hm).1) hs ?_ ?_
        · intro st se M2 hw hk hR hf2
          refine ⟨1, rfl, fun q => absurd q (by omega), fun _ => ?_⟩
          have ht2 : t_rp_S w h sl σ1 M2 := by
            obtain ⟨q1, q2, q3, q4, q5⟩ := ht1
            refine ⟨fun e he => by rw [hf2 43 (by decide)]; exact q1 e he, fun m hm => by rw [hf2 45 (by decide), hf2 44 (by decide)]; exact q2 m hm, ?_, ?_, ?_⟩
            · rw [hf2 42 (by decide)]; exact q3
            · rw [hf2 42 (by decide)]; exact q4
            · rw [hf2 42 (by decide)]; exact q5
          have hb := k_by_b hg hs hiv1.1 b hw
          refine p_59_S (se := se) hg hbo hs (g_tb_fr hf2 (by decide) hT1) (by rw [hf2 4 (by decide)]; exact m4) (by rw [hf2 5 (by decide)]; exact m5) hiv1 (by omega) b (by omega) hw hR ht2 ?_
          intro M3 ht3 hf3 h423
          refine ⟨_, rfl, ⟨by omega, by omega⟩, ⟨by omega, by omega⟩, ?_⟩
          refine ih (rest - k_by sl fo ba st rest σ1).toNat (by omega) _ _ _ (K1 + k_by sl fo ba st rest σ1) M3 (by omega) (by omega) (by omega) (by omega) (by omega) (k_iv_pu hg hs hiv1 b hw) ht3 (jm_fr_tr hf (jm_fr_tr (jm_fr_mo hf2 (by decide)) (jm_fr_mo hf3 (by decide)))) ?_ ?_
          · intro j j7 j8 j9
            rw [h423 j j7 j8 j9, hf2 42 (by decide)]
            exact h42 j j7 j8 j9
          · rw [hpo]
            exact k_po_s hg hs hiv1 b hw
        · intro hw M2 hf2
          refine ⟨0, rfl, fun _ => stop M2 (k_po_n hw) ?_ (jm_fr_tr hf (jm_fr_mo hf2 (by decide))) ?_, fun q => absurd rfl q⟩
          · obtain ⟨q1, q2, q3, q4, q5⟩ := ht1
            refine ⟨fun e he => by rw [hf2 43 (by decide)]; exact q1 e he, fun m hm => by rw [hf2 45 (by decide), hf2 44 (by decide)]; exact q2 m hm, ?_, ?_, ?_⟩
            · rw [hf2 42 (by decide)]; exact q3
            · rw [hf2 42 (by decide)]; exact q4
            · rw [hf2 42 (by decide)]; exact q5
          · intro j j7 j8 j9
            rw [hf2 42 (by decide)]
            exact h42 j j7 j8 j9
      · have : ¬ 0 < rest := by omega
        exact stop M1 (k_po_0 this) ht1 hf h42
  refine sc_58_S (L lim.toNat lim 0 σ K M (by omega) (by omega) (by omega) (by omega) hK0 hiv ht (jm_fr_rfl _ _) (fun _ _ _ _ => rfl) rfl)
/-- a stream begins -/
theorem p_57_S {M : jm_Mem} {x3 x4 x5 : Int} {Q : jm_Q} (hg : g_ok w h sl) (hc : g_circ w h sl fo ba) (hbo : g_bo fo ba) (hT : g_tb w h sl M) (h34 : ∀ v, g_F w h sl v → M 34 v = g_pt w h sl fo ba v) (hin : ∀ v, g_F w h sl v → -10000000 ≤ g_pt w h sl fo ba v ∧ g_pt w h sl fo ba v ≤ 10000000) (hQ : ∀ M', t_rp_S w h sl (k_s0 w h sl fo ba (fun _ => 0)) M' → jm_fr [42, 43, 44, 45] M M' → M' 42 4 = x3 → M' 42 5 = x4 → M' 42 6 = x5 → Q none M') : jm_cl 57 [jm_R 42, jm_R 1, jm_R 33, jm_I x3, jm_I x4, jm_I x5] M Q := by
  have L : ∀ (rest pre : List Int), pre ++ rest = g_el w h sl → ∀ (o7 : Option jm_V) (M1 : jm_Mem), jm_fr [43] M M1 → (∀ e, g_E w h sl e → e ∈ pre → M1 43 e = (k_s0 w h sl fo ba (fun _ => 0)).1 e) → jm_run 57 (2, [some (jm_R 42), some (jm_R 1), some (jm_R 33), some (jm_I x3), some (jm_I x4), some (jm_I x5), some (jm_I (pre.length : Int)), o7], [], M1) Q := by
    intro rest
    induction rest with
    | nil =>
      intro pre hp o7 M1 hf h43
      have hT1 := g_tb_fr hf (by decide) hT
      refine sg_57_2_S ⟨fun a => absurd a (tb_nil hT1 hp), fun a => ?_⟩
      refine jm_fill (n := 36) (l := []) rfl rfl (by decide) ⟨rfl, ?_⟩
      refine jm_fill (n := 36) (l := []) rfl rfl (by decide) ⟨rfl, ?_⟩
      rw [List.append_nil] at hp
      refine hQ _ ⟨?_, ?_, ?_, ?_, ?_⟩ ?_ ?_ ?_ ?_
      · intro e he
        simp only [jm_st_e, jm_sr_e, Nat.reduceEqDiff, reduceIte]
        exact h43 e he (by rw [hp]; exact (g_el_mem hg.1).2 he)
      · intro n hn
        have nb := g_nb hg.1 hn
        simp only [jm_st_e, jm_sr_e, Nat.reduceEqDiff, reduceIte]
        unfold jm_fl
        rw [if_pos (by omega), if_pos (by omega)]
        exact ⟨rfl, rfl⟩
      · simp only [jm_st_e, jm_sr_e, Nat.reduceEqDiff, reduceIte]
        rw [jm_up_o (by omega), jm_up_o (by omega), jm_up_s]
        rfl
      · simp only [jm_st_e, jm_sr_e, Nat.reduceEqDiff, reduceIte]
        rw [jm_up_o (by omega), jm_up_s]
        rfl
      · simp only [jm_st_e, jm_sr_e, Nat.reduceEqDiff, reduceIte]
        rw [jm_up_s]
        rfl
      · exact jm_fr_tr (jm_fr_mo hf (by decide)) (jm_fr_tr (jm_fr_tr (jm_fr_tr (jm_fr_tr (jm_fr_tr (jm_fr_tr (jm_fr_tr (jm_fr_sr (by decide)) (jm_fr_sr (by decide))) (jm_fr_st (by decide))) (jm_fr_st (by decide))) (jm_fr_st (by decide))) (jm_fr_st (by decide))) (jm_fr_st (by decide))) (jm_fr_st (by decide)))
      · simp only [jm_st_e, jm_sr_e, Nat.reduceEqDiff, reduceIte]
        rw [jm_up_o (by omega), jm_up_o (by omega), jm_up_o (by omega), jm_up_o (by omega), jm_up_o (by omega), jm_up_s]
      · simp only [jm_st_e, jm_sr_e, Nat.reduceEqDiff, reduceIte]
        rw [jm_up_o (by omega), jm_up_o (by omega), jm_up_o (by omega), jm_up_o (by omega), jm_up_s]
      · simp only [jm_st_e, jm_sr_e, Nat.reduceEqDiff, reduceIte]
        rw [jm_up_o (by omega), jm_up_o (by omega), jm_up_o (by omega), jm_up_s]
    | cons e rest ih =>
      intro pre hp o7 M1 hf h43
      have hT1 := g_tb_fr hf (by decide) hT
      obtain ⟨t1, t2, t3, t4, t5, t6, t7⟩ := tb_cons hg.1 hT1 hp
      obtain ⟨b1, b2, -, -⟩ := g_Eb hg.1 t3
      obtain ⟨d1, d2, d3, d4⟩ := t_E hg.1 hT1 t3
      obtain ⟨lF, l0, l1⟩ := g_lfF hg t3
      obtain ⟨rF, r0, r1⟩ := g_rtF hg t3
      have il := hin _ lF
      have ir := hin _ rF
      have m34 : ∀ v, g_F w h sl v → M1 34 v = g_pt w h sl fo ba v := fun v hv => by rw [hf 34 (by decide)]; exact h34 v hv
      have ih := fun o7 => ih (pre ++ [e]) t6 o7
      rw [t7] at ih
      refine sg_57_2_S ⟨fun _ => ⟨t4, t5, ?_⟩, fun q => absurd t1 q⟩
      rw [t2, d3, d4, m34 _ lF, m34 _ rF]
      refine ⟨b1, b2, r0, by omega, b1, b2, l0, by omega, ⟨by omega, by omega⟩, b1, b2, ⟨by omega, by omega⟩, ih _ _ (jm_fr_tr hf (jm_fr_st (by decide))) ?_⟩
      intro e' he' hm
      simp only [jm_st_e, reduceIte]
      by_cases q : e' = e
      · rw [q, jm_up_s]
        rfl
      · rw [jm_up_o q]
        refine h43 e' he' ?_
        rw [List.mem_append, List.mem_singleton] at hm
        exact hm.resolve_right q
  exact sc_57_S (L _ [] rfl none M (jm_fr_rfl _ _) (fun e _ hm => by cases hm))
/-- wants of one node alone -/
theorem p_54_S {M : jm_Mem} {t : Int} {Q : jm_Q} (hg : g_ok w h sl) (hc : g_circ w h sl fo ba) (hbo : g_bo fo ba) (hT : g_tb w h sl M) (hfo : M 4 = fo) (hba : M 5 = ba) (h34 : ∀ v, g_F w h sl v → M 34 v = g_pt w h sl fo ba v) (hin : ∀ v, g_F w h sl v → -10000000 ≤ g_pt w h sl fo ba v ∧ g_pt w h sl fo ba v ≤ 10000000) (hs : g_nd w h s) (ht : g_nd w h t) (hQ : ∀ M', t_rp_S w h sl (k_po w h sl fo ba s 1000000 (k_s0 w h sl fo ba (jm_up (fun _ => 0) t 1000000))).2 M' → jm_fr [42, 43, 44, 45, 46, 47, 48, 49, 50, 51] M M' → M' 42 4 = 1 → M' 42 5 = s → M' 42 6 = t → Q (some (jm_I (1000000 - (k_po w h sl fo ba s 1000000 (k_s0 w h sl fo ba (jm_up (fun _ => 0) t 1000000))).1))) M') : jm_cl 54 [jm_R 42, jm_R 1, jm_R 33, jm_I s, jm_I t] M Q := by
  have tb := g_nb hg.1 ht
  refine sc_54_S ?_
  refine p_57_S hg hc hbo hT h34 hin ?_
  intro M1 ht1 hf1 q4 q5 q6
  refine ⟨rfl, tb.1, tb.2, ?_⟩
  have hf2 : jm_fr [42, 43, 44, 45, 46, 47, 48, 49, 50, 51] M (jm_st M1 45 t 1000000) := jm_fr_tr (jm_fr_mo hf1 (by decide)) (jm_fr_st (by decide))
  have c42 : (jm_st M1 45 t 1000000) 42 = M1 42 := by simp only [jm_st_e, Nat.reduceEqDiff, reduceIte]
  refine p_58_S (K := 0) (σ := k_s0 w h sl fo ba (jm_up (fun _ => 0) t 1000000)) hg hbo hs (g_tb_fr hf2 (by decide) hT) (by rw [hf2 4 (by decide)]; exact hfo) (by rw [hf2 5 (by decide)]; exact hba) (k_s0_iv hg hc ?_) (by omega) (by omega) (by omega) (by omega) ?_ ?_
  · intro n hn
    by_cases q : n = t
    · rw [q, jm_up_s]
      omega
    · rw [jm_up_o q]
      omega
  · obtain ⟨u1, u2, u3, u4, u5⟩ := ht1
    refine ⟨?_, ?_, ?_, ?_, ?_⟩
    · intro e he
      simp only [jm_st_e, Nat.reduceEqDiff, reduceIte]
      exact u1 e he
    · intro n hn
      simp only [jm_st_e, Nat.reduceEqDiff, reduceIte]
      refine ⟨?_, (u2 n hn).2⟩
      show _ = jm_up (fun _ => 0) t 1000000 n
      by_cases q : n = t
      · rw [q, jm_up_s, jm_up_s]
      · rw [jm_up_o q, jm_up_o q]
        exact (u2 n hn).1
    · rw [c42]; exact u3
    · rw [c42]; exact u4
    · rw [c42]; exact u5
  · intro M2 ht2 hf3 h42
    refine ⟨_, rfl, hQ M2 ht2 (jm_fr_tr hf2 hf3) ?_ ?_ ?_⟩
    · rw [h42 4 (by omega) (by omega) (by omega), c42]; exact q4
    · rw [h42 5 (by omega) (by omega) (by omega), c42]; exact q5
    · rw [h42 6 (by omega) (by omega) (by omega), c42]; exact q6
end OS
section OU
variable {w h : Int} {sl fo ba : Int → Int} {s : Int}
theorem p_58_U {M : jm_Mem} {lim K : Int} {σ : k_S} {Q : jm_Q} (hg : g_ok w h sl) (hbo : g_bo fo ba) (hs : g_nd w h s) (hT : g_tb w h sl M) (hfo : M 4 = fo) (hba : M 5 = ba) (hiv : k_iv w h sl fo ba K σ) (hK0 : 0 ≤ K) (hK : K + lim ≤ 100000000) (hl0 : 0 ≤ lim) (hl : lim ≤ 1000000) (ht : t_rp_U w h sl σ M) (hQ : ∀ M', t_rp_U w h sl (k_po w h sl fo ba s lim σ).2 M' → jm_fr [52, 53, 54, 55, 56, 57, 58, 59, 60, 61] M M' → (∀ i, i ≠ 7 → i ≠ 8 → i ≠ 9 → M' 52 i = M 52 i) → Q (some (jm_I (lim - (k_po w h sl fo ba s lim σ).1))) M') : jm_cl 58 [jm_R 52, jm_R 1, jm_I s, jm_I lim] M Q := by
  have L : ∀ (n : Nat) (rest i : Int) (σ1 : k_S) (K1 : Int) (M1 : jm_Mem), rest = (n : Int) → 0 ≤ i → i + rest ≤ lim → K1 + rest ≤ K + lim → 0 ≤ K1 → k_iv w h sl fo ba K1 σ1 → t_rp_U w h sl σ1 M1 → jm_fr [52, 53, 54, 55, 56, 57, 58, 59, 60, 61] M M1 → (∀ i, i ≠ 7 → i ≠ 8 → i ≠ 9 → M1 52 i = M 52 i) → k_po w h sl fo ba s lim σ = k_po w h sl fo ba s rest σ1 → jm_run 58 (4, [some (jm_R 52), some (jm_R 1), some (jm_I s), some (jm_I lim), some (jm_I rest), some (jm_I i)], [], M1) Q := by
    intro n
    induction n using Nat.strongRecOn with
    | ind n ih =>
      intro rest i σ1 K1 M1 hn i0 hi hK1 hK10 hiv1 ht1 hf h42 hpo
      have hT1 := g_tb_fr hf (by decide) hT
      have m4 : M1 4 = fo := by rw [hf 4 (by decide)]; exact hfo
      have m5 : M1 5 = ba := by rw [hf 5 (by decide)]; exact hba
      have stop : ∀ M2, k_po w h sl fo ba s rest σ1 = (rest, σ1) → t_rp_U w h sl σ1 M2 → jm_fr [52, 53, 54, 55, 56, 57, 58, 59, 60, 61] M M2 → (∀ i, i ≠ 7 → i ≠ 8 → i ≠ 9 → M2 52 i = M 52 i) → jm_in (lim - rest) ∧ Q (some (jm_I (lim - rest))) M2 := by
        intro M2 q ht2 hf2 h422
        rw [hpo, q] at hQ
        exact ⟨⟨by omega, by omega⟩, hQ M2 ht2 hf2 h422⟩
      refine sg_58_4_U ⟨fun a => ⟨fun b => ?_, fun b => stop M1 (k_po_0 b) ht1 hf h42⟩, fun a => ?_⟩
      · refine p_50_U (rn := σ1.1) (wt := σ1.2.1) hg hbo hT1 m4 m5 (fun e he => ⟨ht1.1 e he, by have h1 := hiv1.1 e he; have h2 := hbo e; omega⟩) (fun m hm => (ht1.2.1 m hm).1) hs ?_ ?_
        · intro st se M2 hw hk hR hf2
          refine ⟨1, rfl, fun q => absurd q (by omega), fun _ => ?_⟩
          have ht2 : t_rp_U w h sl σ1 M2 := by
            obtain ⟨q1, q2, q3, q4, q5⟩ := ht1
            refine ⟨fun e he => by rw [hf2 53 (by decide)]; exact q1 e he, fun m hm => by rw [hf2 55 (by decide), hf2 54 (by decide)]; exact q2 m hm, ?_, ?_, ?_⟩
            · rw [hf2 52 (by decide)]; exact q3
            · rw [hf2 52 (by decide)]; exact q4
            · rw [hf2 52 (by decide)]; exact q5
          have hb := k_by_b hg hs hiv1.1 b hw
          refine p_59_U (se := se) hg hbo hs (g_tb_fr hf2 (by decide) hT1) (by rw [hf2 4 (by decide)]; exact m4) (by rw [hf2 5 (by decide)]; exact m5) hiv1 (by omega) b (by omega) hw hR ht2 ?_
          intro M3 ht3 hf3 h423
          refine ⟨_, rfl, ⟨by omega, by omega⟩, ⟨by omega, by omega⟩, ?_⟩
          refine ih (rest - k_by sl fo ba st rest σ1).toNat (by omega) _ _ _ (K1 + k_by sl fo ba st rest σ1) M3 (by omega) (by omega) (by omega) (by omega) (by omega) (k_iv_pu hg hs hiv1 b hw) ht3 (jm_fr_tr hf (jm_fr_tr (jm_fr_mo hf2 (by decide)) (jm_fr_mo hf3 (by decide)))) ?_ ?_
          · intro j j7 j8 j9
            rw [h423 j j7 j8 j9, hf2 52 (by decide)]
            exact h42 j j7 j8 j9
          · rw [hpo]
            exact k_po_s hg hs hiv1 b hw
        · intro hw M2 hf2
          refine ⟨0, rfl, fun _ => stop M2 (k_po_n hw) ?_ (jm_fr_tr hf (jm_fr_mo hf2 (by decide))) ?_, fun q => absurd rfl q⟩
          · obtain ⟨q1, q2, q3, q4, q5⟩ := ht1
            refine ⟨fun e he => by rw [hf2 53 (by decide)]; exact q1 e he, fun m hm => by rw [hf2 55 (by decide), hf2 54 (by decide)]; exact q2 m hm, ?_, ?_, ?_⟩
            · rw [hf2 52 (by decide)]; exact q3
            · rw [hf2 52 (by decide)]; exact q4
            · rw [hf2 52 (by decide)]; exact q5
          · intro j j7 j8 j9
            rw [hf2 52 (by decide)]
            exact h42 j j7 j8 j9
      · have : ¬ 0 < rest := by omega
        exact stop M1 (k_po_0 this) ht1 hf h42
  refine sc_58_U (L lim.toNat lim 0 σ K M (by omega) (by omega) (by omega) (by omega) hK0 hiv ht (jm_fr_rfl _ _) (fun _ _ _ _ => rfl) rfl)
/-- a stream begins -/
theorem p_57_U {M : jm_Mem} {x3 x4 x5 : Int} {Q : jm_Q} (hg : g_ok w h sl) (hc : g_circ w h sl fo ba) (hbo : g_bo fo ba) (hT : g_tb w h sl M) (h34 : ∀ v, g_F w h sl v → M 34 v = g_pt w h sl fo ba v) (hin : ∀ v, g_F w h sl v → -10000000 ≤ g_pt w h sl fo ba v ∧ g_pt w h sl fo ba v ≤ 10000000) (hQ : ∀ M', t_rp_U w h sl (k_s0 w h sl fo ba (fun _ => 0)) M' → jm_fr [52, 53, 54, 55] M M' → M' 52 4 = x3 → M' 52 5 = x4 → M' 52 6 = x5 → Q none M') : jm_cl 57 [jm_R 52, jm_R 1, jm_R 33, jm_I x3, jm_I x4, jm_I x5] M Q := by
  have L : ∀ (rest pre : List Int), pre ++ rest = g_el w h sl → ∀ (o7 : Option jm_V) (M1 : jm_Mem), jm_fr [53] M M1 → (∀ e, g_E w h sl e → e ∈ pre → M1 53 e = (k_s0 w h sl fo ba (fun _ => 0)).1 e) → jm_run 57 (2, [some (jm_R 52), some (jm_R 1), some (jm_R 33), some (jm_I x3), some (jm_I x4), some (jm_I x5), some (jm_I (pre.length : Int)), o7], [], M1) Q := by
    intro rest
    induction rest with
    | nil =>
      intro pre hp o7 M1 hf h43
      have hT1 := g_tb_fr hf (by decide) hT
      refine sg_57_2_U ⟨fun a => absurd a (tb_nil hT1 hp), fun a => ?_⟩
      refine jm_fill (n := 36) (l := []) rfl rfl (by decide) ⟨rfl, ?_⟩
      refine jm_fill (n := 36) (l := []) rfl rfl (by decide) ⟨rfl, ?_⟩
      rw [List.append_nil] at hp
      refine hQ _ ⟨?_, ?_, ?_, ?_, ?_⟩ ?_ ?_ ?_ ?_
      · intro e he
        simp only [jm_st_e, jm_sr_e, Nat.reduceEqDiff, reduceIte]
        exact h43 e he (by rw [hp]; exact (g_el_mem hg.1).2 he)
      · intro n hn
        have nb := g_nb hg.1 hn
        simp only [jm_st_e, jm_sr_e, Nat.reduceEqDiff, reduceIte]
        unfold jm_fl
        rw [if_pos (by omega), if_pos (by omega)]
        exact ⟨rfl, rfl⟩
      · simp only [jm_st_e, jm_sr_e, Nat.reduceEqDiff, reduceIte]
        rw [jm_up_o (by omega), jm_up_o (by omega), jm_up_s]
        rfl
      · simp only [jm_st_e, jm_sr_e, Nat.reduceEqDiff, reduceIte]
        rw [jm_up_o (by omega), jm_up_s]
        rfl
      · simp only [jm_st_e, jm_sr_e, Nat.reduceEqDiff, reduceIte]
        rw [jm_up_s]
        rfl
      · exact jm_fr_tr (jm_fr_mo hf (by decide)) (jm_fr_tr (jm_fr_tr (jm_fr_tr (jm_fr_tr (jm_fr_tr (jm_fr_tr (jm_fr_tr (jm_fr_sr (by decide)) (jm_fr_sr (by decide))) (jm_fr_st (by decide))) (jm_fr_st (by decide))) (jm_fr_st (by decide))) (jm_fr_st (by decide))) (jm_fr_st (by decide))) (jm_fr_st (by decide)))
      · simp only [jm_st_e, jm_sr_e, Nat.reduceEqDiff, reduceIte]
        rw [jm_up_o (by omega), jm_up_o (by omega), jm_up_o (by omega), jm_up_o (by omega), jm_up_o (by omega), jm_up_s]
      · simp only [jm_st_e, jm_sr_e, Nat.reduceEqDiff, reduceIte]
        rw [jm_up_o (by omega), jm_up_o (by omega), jm_up_o (by omega), jm_up_o (by omega), jm_up_s]
      · simp only [jm_st_e, jm_sr_e, Nat.reduceEqDiff, reduceIte]
        rw [jm_up_o (by omega), jm_up_o (by omega), jm_up_o (by omega), jm_up_s]
    | cons e rest ih =>
      intro pre hp o7 M1 hf h43
      have hT1 := g_tb_fr hf (by decide) hT
      obtain ⟨t1, t2, t3, t4, t5, t6, t7⟩ := tb_cons hg.1 hT1 hp
      obtain ⟨b1, b2, -, -⟩ := g_Eb hg.1 t3
      obtain ⟨d1, d2, d3, d4⟩ := t_E hg.1 hT1 t3
      obtain ⟨lF, l0, l1⟩ := g_lfF hg t3
      obtain ⟨rF, r0, r1⟩ := g_rtF hg t3
      have il := hin _ lF
      have ir := hin _ rF
      have m34 : ∀ v, g_F w h sl v → M1 34 v = g_pt w h sl fo ba v := fun v hv => by rw [hf 34 (by decide)]; exact h34 v hv
      have ih := fun o7 => ih (pre ++ [e]) t6 o7
      rw [t7] at ih
      refine sg_57_2_U ⟨fun _ => ⟨t4, t5, ?_⟩, fun q => absurd t1 q⟩
      rw [t2, d3, d4, m34 _ lF, m34 _ rF]
      refine ⟨b1, b2, r0, by omega, b1, b2, l0, by omega, ⟨by omega, by omega⟩, b1, b2, ⟨by omega, by omega⟩, ih _ _ (jm_fr_tr hf (jm_fr_st (by decide))) ?_⟩
      intro e' he' hm
      simp only [jm_st_e, reduceIte]
      by_cases q : e' = e
      · rw [q, jm_up_s]
        rfl
      · rw [jm_up_o q]
        refine h43 e' he' ?_
        rw [List.mem_append, List.mem_singleton] at hm
        exact hm.resolve_right q
  exact sc_57_U (L _ [] rfl none M (jm_fr_rfl _ _) (fun e _ hm => by cases hm))
/-- wants of one node alone -/
theorem p_54_U {M : jm_Mem} {t : Int} {Q : jm_Q} (hg : g_ok w h sl) (hc : g_circ w h sl fo ba) (hbo : g_bo fo ba) (hT : g_tb w h sl M) (hfo : M 4 = fo) (hba : M 5 = ba) (h34 : ∀ v, g_F w h sl v → M 34 v = g_pt w h sl fo ba v) (hin : ∀ v, g_F w h sl v → -10000000 ≤ g_pt w h sl fo ba v ∧ g_pt w h sl fo ba v ≤ 10000000) (hs : g_nd w h s) (ht : g_nd w h t) (hQ : ∀ M', t_rp_U w h sl (k_po w h sl fo ba s 1000000 (k_s0 w h sl fo ba (jm_up (fun _ => 0) t 1000000))).2 M' → jm_fr [52, 53, 54, 55, 56, 57, 58, 59, 60, 61] M M' → M' 52 4 = 1 → M' 52 5 = s → M' 52 6 = t → Q (some (jm_I (1000000 - (k_po w h sl fo ba s 1000000 (k_s0 w h sl fo ba (jm_up (fun _ => 0) t 1000000))).1))) M') : jm_cl 54 [jm_R 52, jm_R 1, jm_R 33, jm_I s, jm_I t] M Q := by
  have tb := g_nb hg.1 ht
  refine sc_54_U ?_
  refine p_57_U hg hc hbo hT h34 hin ?_
  intro M1 ht1 hf1 q4 q5 q6
  refine ⟨rfl, tb.1, tb.2, ?_⟩
  have hf2 : jm_fr [52, 53, 54, 55, 56, 57, 58, 59, 60, 61] M (jm_st M1 55 t 1000000) := jm_fr_tr (jm_fr_mo hf1 (by decide)) (jm_fr_st (by decide))
  have c42 : (jm_st M1 55 t 1000000) 52 = M1 52 := by simp only [jm_st_e, Nat.reduceEqDiff, reduceIte]
  refine p_58_U (K := 0) (σ := k_s0 w h sl fo ba (jm_up (fun _ => 0) t 1000000)) hg hbo hs (g_tb_fr hf2 (by decide) hT) (by rw [hf2 4 (by decide)]; exact hfo) (by rw [hf2 5 (by decide)]; exact hba) (k_s0_iv hg hc ?_) (by omega) (by omega) (by omega) (by omega) ?_ ?_
  · intro n hn
    by_cases q : n = t
    · rw [q, jm_up_s]
      omega
    · rw [jm_up_o q]
      omega
  · obtain ⟨u1, u2, u3, u4, u5⟩ := ht1
    refine ⟨?_, ?_, ?_, ?_, ?_⟩
    · intro e he
      simp only [jm_st_e, Nat.reduceEqDiff, reduceIte]
      exact u1 e he
    · intro n hn
      simp only [jm_st_e, Nat.reduceEqDiff, reduceIte]
      refine ⟨?_, (u2 n hn).2⟩
      show _ = jm_up (fun _ => 0) t 1000000 n
      by_cases q : n = t
      · rw [q, jm_up_s, jm_up_s]
      · rw [jm_up_o q, jm_up_o q]
        exact (u2 n hn).1
    · rw [c42]; exact u3
    · rw [c42]; exact u4
    · rw [c42]; exact u5
  · intro M2 ht2 hf3 h42
    refine ⟨_, rfl, hQ M2 ht2 (jm_fr_tr hf2 hf3) ?_ ?_ ?_⟩
    · rw [h42 4 (by omega) (by omega) (by omega), c42]; exact q4
    · rw [h42 5 (by omega) (by omega) (by omega), c42]; exact q5
    · rw [h42 6 (by omega) (by omega) (by omega), c42]; exact q6
end OU
