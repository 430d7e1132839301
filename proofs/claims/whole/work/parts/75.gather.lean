/-! FLOWS: values; gathered; met: the class -/
theorem b_bd_r {C : Int} (hC : 0 ≤ C) : ∀ {A : List b_A} {s : b_S} {t : Int}, (∀ x ∈ A, -C ≤ x.2.2.1 ∧ x.2.2.1 ≤ C) → b_bd C t s → b_bd C (t + (A.length : Int)) (b_r A s)
  | [], s, t, _, hb => by
    rw [show t + (([] : List b_A).length : Int) = t from Int.add_zero t]
    exact hb
  | x :: A, s, t, hA, hb => by
    have := b_bd_r hC (A := A) (s := b_t s x) (t := t + 1) (fun y hy => hA y (List.mem_cons_of_mem _ hy)) (b_bd_t hC (hA x List.mem_cons_self) hb)
    rw [show t + ((x :: A).length : Int) = t + 1 + (A.length : Int) by rw [List.length_cons]; omega]
    exact this
section Q6
variable {w h : Int} {sl fo ba : Int → Int}
theorem g_pt_bd (hg : g_ok w h sl) (hbo : g_bo fo ba) (hc : g_circ w h sl fo ba) {v : Int} (hv : g_F w h sl v) : -10000000 ≤ g_pt w h sl fo ba v ∧ g_pt w h sl fo ba v ≤ 10000000 := by
  have hA : ∀ x ∈ g_fw w h sl fo ba, -100 ≤ x.2.2.1 ∧ x.2.2.1 ≤ 100 := by
    intro x hx
    obtain ⟨e, he, rfl | rfl⟩ := b_ar_mem.1 hx
    · exact ⟨(hbo e).1, (hbo e).2.1⟩
    · exact ⟨(hbo e).2.2.1, (hbo e).2.2.2.1⟩
  have hl : ((g_fw w h sl fo ba).length : Int) ≤ 216 := g_arl
  have hn : ∀ k : Nat, b_bd 100 ((k : Int) * 216) (b_n (g_fw w h sl fo ba) k (b_0 72)) := by
    intro k
    induction k with
    | zero => exact b_bd_0 _ _ _ (by omega)
    | succ k ih =>
      have := b_bd_r (by omega) hA ih
      intro u a ha
      have := this u a ha
      have e : ((k + 1 : Nat) : Int) * 216 = (k : Int) * 216 + 216 := by omega
      rw [e]
      omega
  have hN := g_fs_len (w := w) (h := h) (sl := sl)
  have h73 := g_fw_end hg hc (Or.inl rfl) (show (g_fs w h sl).length < 73 + 2 by omega)
  have := hn 73 v _ (g_pt_of hg h73 hv)
  omega
/-- the value of a flow -/
def g_val (w h : Int) (sl fo ba : Int → Int) (s t : Int) : Int := 1000000 - (k_po w h sl fo ba s 1000000 (k_s0 w h sl fo ba (jm_up (fun _ => 0) t 1000000))).1
theorem k_t_wt {t : Int} : ∀ n, g_nd w h n → 0 ≤ jm_up (fun _ => 0) t 1000000 n ∧ jm_up (fun _ => 0) t 1000000 n ≤ 1000000 := by
  intro n hn
  by_cases q : n = t
  · rw [q, jm_up_s]
    omega
  · rw [jm_up_o q]
    omega
theorem g_val_b (hg : g_ok w h sl) (hc : g_circ w h sl fo ba) {s t : Int} (hs : g_nd w h s) : 0 ≤ g_val w h sl fo ba s t ∧ g_val w h sl fo ba s t ≤ 1000000 := by
  have := k_po_iv (fo := fo) (ba := ba) hg hs 1000000 1000000 0 (k_s0 w h sl fo ba (jm_up (fun _ => 0) t 1000000)) rfl (k_s0_iv hg hc k_t_wt)
  unfold g_val
  omega
/-- where one node alone wants something: what it wanted, what was given -/
theorem k_po_gv (hg : g_ok w h sl) {s t : Int} (hs : g_nd w h s) (hst : s ≠ t) : ∀ (n : Nat) (rest K : Int) (σ : k_S), rest = (n : Int) → k_iv w h sl fo ba K σ → (∀ m, g_nd w h m → m ≠ t → σ.2.1 m = 0) → (∀ m, g_nd w h m → m ≠ t → (k_po w h sl fo ba s rest σ).2.2.1 m = 0) ∧ (k_po w h sl fo ba s rest σ).2.2.1 t = σ.2.1 t - (rest - (k_po w h sl fo ba s rest σ).1) ∧ ∀ m, (k_po w h sl fo ba s rest σ).2.2.2.1 m = if m = t then σ.2.2.1 t - (rest - (k_po w h sl fo ba s rest σ).1) else if m = s then σ.2.2.1 s + (rest - (k_po w h sl fo ba s rest σ).1) else σ.2.2.1 m := by
  intro n
  induction n using Nat.strongRecOn with
  | ind n ih =>
    intro rest K σ hn hiv hz
    have stop : k_po w h sl fo ba s rest σ = (rest, σ) → (∀ m, g_nd w h m → m ≠ t → (k_po w h sl fo ba s rest σ).2.2.1 m = 0) ∧ (k_po w h sl fo ba s rest σ).2.2.1 t = σ.2.1 t - (rest - (k_po w h sl fo ba s rest σ).1) ∧ ∀ m, (k_po w h sl fo ba s rest σ).2.2.2.1 m = if m = t then σ.2.2.1 t - (rest - (k_po w h sl fo ba s rest σ).1) else if m = s then σ.2.2.1 s + (rest - (k_po w h sl fo ba s rest σ).1) else σ.2.2.1 m := by
      intro q
      rw [q]
      dsimp only
      rw [Int.sub_self]
      refine ⟨hz, by omega, fun m => ?_⟩
      by_cases q1 : m = t
      · rw [if_pos q1, q1]
        omega
      · rw [if_neg q1]
        by_cases q2 : m = s
        · rw [if_pos q2, q2]
          omega
        · rw [if_neg q2]
    by_cases hr : 0 < rest
    · cases hw : k_way w h sl fo ba σ.1 σ.2.1 s with
      | none => exact stop (k_po_n hw)
      | some st =>
        have hb := k_by_b hg hs hiv.1 hr hw
        obtain ⟨f0, l, se', r1, r2, r3, r4, r5, r6, r7, r8, r9, r10, r11, r12⟩ := k_found hg hs hiv.1 hw
        have hen : k_en st = t := by
          by_cases q : k_en st = t
          · exact q
          · have := hz _ r7 q
            omega
        have e1 : (k_pu sl s st (k_by sl fo ba st rest σ) σ).2.1 = jm_up σ.2.1 t (σ.2.1 t - k_by sl fo ba st rest σ) := by
          unfold k_pu
          rw [hen]
        have e2 : (k_pu sl s st (k_by sl fo ba st rest σ) σ).2.2.1 = jm_up (jm_up σ.2.2.1 s (σ.2.2.1 s + k_by sl fo ba st rest σ)) t (σ.2.2.1 t - k_by sl fo ba st rest σ) := by
          unfold k_pu
          rw [hen]
          dsimp only
          rw [jm_up_o (Ne.symm hst)]
        obtain ⟨i1, i2, i3⟩ := ih (rest - k_by sl fo ba st rest σ).toNat (by omega) (rest - k_by sl fo ba st rest σ) (K + k_by sl fo ba st rest σ) (k_pu sl s st (k_by sl fo ba st rest σ) σ) (by omega) (k_iv_pu hg hs hiv hr hw) (fun m hm hmt => by rw [e1, jm_up_o hmt]; exact hz m hm hmt)
        rw [k_po_s hg hs hiv hr hw]
        refine ⟨i1, ?_, fun m => ?_⟩
        · rw [i2, e1, jm_up_s]
          omega
        · rw [i3 m, e2, jm_up_s, jm_up_o hst, jm_up_s]
          by_cases q1 : m = t
          · rw [if_pos q1, if_pos q1]
            omega
          · rw [if_neg q1, if_neg q1]
            by_cases q2 : m = s
            · rw [if_pos q2, if_pos q2]
              omega
            · rw [if_neg q2, if_neg q2, jm_up_o q1, jm_up_o q2]
    · exact stop (k_po_0 hr)
/-- gathered from nodes, one after the other -/
def k_ga (w h : Int) (sl fo ba : Int → Int) (each : Int) : List Int → Int → k_S → Int × k_S
  | [], sum, σ => (sum, σ)
  | n :: l, sum, σ => k_ga w h sl fo ba each l (sum + (each - (k_po w h sl fo ba n each σ).1)) (k_po w h sl fo ba n each σ).2
def g_gn (w h : Int) (sl : Int → Int) (face t n : Int) : List Int := g_ls (fun n => n ≠ t ∧ g_aF w h sl n face = true) (w * h) n
theorem p_55 {M : jm_Mem} {face t each : Int} {Q : jm_Q} (hg : g_ok w h sl) (hc : g_circ w h sl fo ba) (hbo : g_bo fo ba) (hT : g_tb w h sl M) (hfo : M 4 = fo) (hba : M 5 = ba) (h34 : ∀ v, g_F w h sl v → M 34 v = g_pt w h sl fo ba v) (ht : g_nd w h t) (e1 : 1 ≤ each) (e2 : each ≤ 999) (hQ : ∀ M', t_rp_S w h sl (k_ga w h sl fo ba each (g_gn w h sl face t 0) 0 (k_s0 w h sl fo ba (jm_up (fun _ => 0) t 1000000))).2 M' → jm_fr [42, 43, 44, 45, 46, 47, 48, 49, 50, 51] M M' → M' 42 4 = 2 → M' 42 5 = -1 → M' 42 6 = t → Q (some (jm_I (k_ga w h sl fo ba each (g_gn w h sl face t 0) 0 (k_s0 w h sl fo ba (jm_up (fun _ => 0) t 1000000))).1)) M') : jm_cl 55 [jm_R 42, jm_R 1, jm_R 33, jm_I face, jm_I t, jm_I each] M Q := by
  have tb := g_nb hg.1 ht
  have hm := g_mul hg.1
  have L : ∀ n, n ≤ w * h → 0 ≤ n → ∀ (sum K : Int) (σ : k_S) (M1 : jm_Mem), 0 ≤ sum → sum ≤ 999 * n → 0 ≤ K → K ≤ 999 * n → k_iv w h sl fo ba K σ → t_rp_S w h sl σ M1 → jm_fr [42, 43, 44, 45, 46, 47, 48, 49, 50, 51] M M1 → M1 42 4 = 2 → M1 42 5 = -1 → M1 42 6 = t → k_ga w h sl fo ba each (g_gn w h sl face t 0) 0 (k_s0 w h sl fo ba (jm_up (fun _ => 0) t 1000000)) = k_ga w h sl fo ba each (g_gn w h sl face t n) sum σ → jm_run 55 (16, [some (jm_R 42), some (jm_R 1), some (jm_R 33), some (jm_I face), some (jm_I t), some (jm_I each), some (jm_I sum), some (jm_I n)], [], M1) Q := by
    refine jm_dn ?_
    intro n hn ih n0 sum K σ M1 s0 s1 k0 k1 hiv htr hf q4 q5 q6 hga
    have hT1 := g_tb_fr hf (by decide) hT
    refine sg_55_16_S ?_
    rw [t_nc hT1]
    refine ⟨fun a => ⟨fun b => ⟨⟨by omega, by omega⟩, ?_⟩, fun b => ?_⟩, fun a => ?_⟩
    · refine ih a (by omega) sum K σ M1 s0 (by omega) k0 (by omega) hiv htr hf q4 q5 q6 ?_
      rw [hga]
      unfold g_gn
      rw [g_ls_n a (fun q => q.1 b)]
    · rw [e_28 hg.1 hT1]
      refine ⟨_, rfl, fun c => ⟨⟨by omega, by omega⟩, ?_⟩, fun c => ?_⟩
      · rw [jm_B0] at c
        refine ih a (by omega) sum K σ M1 s0 (by omega) k0 (by omega) hiv htr hf q4 q5 q6 ?_
        rw [hga]
        unfold g_gn
        rw [g_ls_n a (fun q => c q.2)]
      · rw [jm_Bn] at c
        have hnd : g_nd w h n := ⟨n0, a⟩
        obtain ⟨p1, p2, p3⟩ := k_po_iv (fo := fo) (ba := ba) hg hnd each.toNat each K σ (by omega) hiv
        refine p_58_S (K := K) hg hbo hnd hT1 (by rw [hf 4 (by decide)]; exact hfo) (by rw [hf 5 (by decide)]; exact hba) hiv k0 (by omega) (by omega) (by omega) htr ?_
        intro M2 htr2 hf2 h42
        refine ⟨_, rfl, ⟨by omega, by omega⟩, ⟨by omega, by omega⟩, ih a (by omega) _ (K + (each - (k_po w h sl fo ba n each σ).1)) _ M2 (by omega) (by omega) (by omega) (by omega) p1 htr2 (jm_fr_tr hf hf2) ?_ ?_ ?_ ?_⟩
        · rw [h42 4 (by omega) (by omega) (by omega)]; exact q4
        · rw [h42 5 (by omega) (by omega) (by omega)]; exact q5
        · rw [h42 6 (by omega) (by omega) (by omega)]; exact q6
        · rw [hga]
          unfold g_gn
          rw [g_ls_y a ⟨b, c⟩]
          rfl
    · unfold g_gn at hga
      rw [g_ls_z (P := fun n => n ≠ t ∧ g_aF w h sl n face = true) (show w * h ≤ n by omega)] at hga
      unfold g_gn at hQ
      rw [hga] at hQ
      exact hQ M1 htr hf q4 q5 q6
  refine sc_55_S ?_
  refine p_57_S hg hc hbo hT h34 (fun v hv => g_pt_bd hg hbo hc hv) ?_
  intro M1 ht1 hf1 q4 q5 q6
  refine ⟨rfl, tb.1, tb.2, ?_⟩
  have c42 : (jm_st M1 45 t 1000000) 42 = M1 42 := by simp only [jm_st_e, Nat.reduceEqDiff, reduceIte]
  refine L 0 (by omega) (by omega) 0 0 (k_s0 w h sl fo ba (jm_up (fun _ => 0) t 1000000)) _ (by omega) (by omega) (by omega) (by omega) (k_s0_iv hg hc k_t_wt) ?_ (jm_fr_tr (jm_fr_mo hf1 (by decide)) (jm_fr_st (by decide))) (by rw [c42]; exact q4) (by rw [c42]; exact q5) (by rw [c42]; exact q6) rfl
  obtain ⟨u1, u2, u3, u4, u5⟩ := ht1
  refine ⟨?_, ?_, ?_, ?_, ?_⟩
  · intro e he
    simp only [jm_st_e, Nat.reduceEqDiff, reduceIte]
    exact u1 e he
  · intro n hn
    simp only [jm_st_e, Nat.reduceEqDiff, reduceIte]
    refine ⟨?_, (u2 n hn).2⟩
    show _ = jm_up (fun _ => 0) t 1000000 n
    by_cases q : n = t
    · rw [q, jm_up_s, jm_up_s]
    · rw [jm_up_o q, jm_up_o q]
      exact (u2 n hn).1
  · rw [c42]; exact u3
  · rw [c42]; exact u4
  · rw [c42]; exact u5
/-- met, node by node -/
def k_li (su : Int → Int) (n : Int) : Int := if 0 < su n then su n else 0
def k_me (w h : Int) (sl fo ba su : Int → Int) : List Int → Int → k_S → Int × k_S
  | [], sum, σ => (sum, σ)
  | n :: l, sum, σ => k_me w h sl fo ba su l (sum + (k_li su n - (k_po w h sl fo ba n (k_li su n) σ).1)) (k_po w h sl fo ba n (k_li su n) σ).2
def g_nl (w h n : Int) : List Int := g_ls (fun _ => True) (w * h) n
def k_mw (su : Int → Int) : Int → Int := fun n => if 0 < -(su n) then -(su n) else 0
theorem k_mw_b {su : Int → Int} (hsu : ∀ n, -99 ≤ su n ∧ su n ≤ 99) : ∀ n, g_nd w h n → 0 ≤ k_mw su n ∧ k_mw su n ≤ 1000000 := by
  intro n _
  have := hsu n
  unfold k_mw
  split <;> omega
theorem p_56 {M : jm_Mem} {su : Int → Int} {Q : jm_Q} (hg : g_ok w h sl) (hc : g_circ w h sl fo ba) (hbo : g_bo fo ba) (hT : g_tb w h sl M) (hfo : M 4 = fo) (hba : M 5 = ba) (hsu : M 6 = su) (hsb : ∀ n, -99 ≤ su n ∧ su n ≤ 99) (h34 : ∀ v, g_F w h sl v → M 34 v = g_pt w h sl fo ba v) (hQ : ∀ M', t_rp_S w h sl (k_me w h sl fo ba su (g_nl w h 0) 0 (k_s0 w h sl fo ba (k_mw su))).2 M' → jm_fr [42, 43, 44, 45, 46, 47, 48, 49, 50, 51] M M' → M' 42 4 = 3 → M' 42 5 = -1 → M' 42 6 = -1 → Q (some (jm_I (k_me w h sl fo ba su (g_nl w h 0) 0 (k_s0 w h sl fo ba (k_mw su))).1)) M') : jm_cl 56 [jm_R 42, jm_R 1, jm_R 33] M Q := by
  have hm := g_mul hg.1
  have lib : ∀ n, 0 ≤ k_li su n ∧ k_li su n ≤ 99 := by
    intro n
    have := hsb n
    unfold k_li
    split <;> omega
  have L : ∀ n, n ≤ w * h → 0 ≤ n → ∀ (sum K : Int) (σ : k_S) (M1 : jm_Mem), 0 ≤ sum → sum ≤ 99 * n → 0 ≤ K → K ≤ 99 * n → k_iv w h sl fo ba K σ → t_rp_S w h sl σ M1 → jm_fr [42, 43, 44, 45, 46, 47, 48, 49, 50, 51] M M1 → M1 42 4 = 3 → M1 42 5 = -1 → M1 42 6 = -1 → k_me w h sl fo ba su (g_nl w h 0) 0 (k_s0 w h sl fo ba (k_mw su)) = k_me w h sl fo ba su (g_nl w h n) sum σ → jm_run 56 (33, [some (jm_R 42), some (jm_R 1), some (jm_R 33), some (jm_R 6), some (jm_I sum), some (jm_I n)], [], M1) Q := by
    refine jm_dn ?_
    intro n hn ih n0 sum K σ M1 s0 s1 k0 k1 hiv htr hf q4 q5 q6 hme
    have hT1 := g_tb_fr hf (by decide) hT
    have m6 : M1 6 = su := by rw [hf 6 (by decide)]; exact hsu
    refine sg_56_33_S ?_
    rw [t_nc hT1, m6]
    refine ⟨fun a => ⟨n0, by omega, ?_⟩, fun a => ?_⟩
    · have hnd : g_nd w h n := ⟨n0, a⟩
      have lb := lib n
      obtain ⟨p1, p2, p3⟩ := k_po_iv (fo := fo) (ba := ba) hg hnd (k_li su n).toNat (k_li su n) K σ (by omega) hiv
      refine p_58_S (K := K) (lim := k_li su n) hg hbo hnd hT1 (by rw [hf 4 (by decide)]; exact hfo) (by rw [hf 5 (by decide)]; exact hba) hiv k0 (by omega) (by omega) (by omega) htr ?_
      intro M2 htr2 hf2 h42
      refine ⟨_, rfl, ⟨by omega, by omega⟩, ⟨by omega, by omega⟩, ih a (by omega) _ (K + (k_li su n - (k_po w h sl fo ba n (k_li su n) σ).1)) _ M2 (by omega) (by omega) (by omega) (by omega) p1 htr2 (jm_fr_tr hf hf2) ?_ ?_ ?_ ?_⟩
      · rw [h42 4 (by omega) (by omega) (by omega)]; exact q4
      · rw [h42 5 (by omega) (by omega) (by omega)]; exact q5
      · rw [h42 6 (by omega) (by omega) (by omega)]; exact q6
      · rw [hme]
        unfold g_nl
        rw [g_ls_y a trivial]
        rfl
    · unfold g_nl at hme
      rw [g_ls_z (P := fun _ => True) (show w * h ≤ n by omega)] at hme
      unfold g_nl at hQ
      rw [hme] at hQ
      exact hQ M1 htr hf q4 q5 q6
  have LW : ∀ n, n ≤ w * h → 0 ≤ n → ∀ (M1 : jm_Mem), t_rp_S w h sl (k_s0 w h sl fo ba (fun m => if m < n then k_mw su m else 0)) M1 → jm_fr [42, 43, 44, 45, 46, 47, 48, 49, 50, 51] M M1 → M1 42 4 = 3 → M1 42 5 = -1 → M1 42 6 = -1 → jm_run 56 (13, [some (jm_R 42), some (jm_R 1), some (jm_R 33), some (jm_R 6), some (jm_I n), none], [], M1) Q := by
    refine jm_dn ?_
    intro n hn ih n0 M1 htr hf q4 q5 q6
    have hT1 := g_tb_fr hf (by decide) hT
    have m6 : M1 6 = su := by rw [hf 6 (by decide)]; exact hsu
    have sb := hsb n
    obtain ⟨u1, u2, u3, u4, u5⟩ := htr
    refine sg_56_13_S ?_
    rw [t_nc hT1, m6]
    refine ⟨fun a => ⟨n0, by omega, ⟨by omega, by omega⟩, n0, by omega, ⟨by omega, by omega⟩, ?_⟩, fun a => ?_⟩
    · have c42 : (jm_st M1 45 n (if 0 < -(su n) then -(su n) else 0)) 42 = M1 42 := by simp only [jm_st_e, Nat.reduceEqDiff, reduceIte]
      refine ih a (by omega) _ ⟨?_, ?_, ?_, ?_, ?_⟩ (jm_fr_tr hf (jm_fr_st (by decide))) (by rw [c42]; exact q4) (by rw [c42]; exact q5) (by rw [c42]; exact q6)
      · intro e he
        simp only [jm_st_e, Nat.reduceEqDiff, reduceIte]
        exact u1 e he
      · intro m hm
        simp only [jm_st_e, Nat.reduceEqDiff, reduceIte]
        refine ⟨?_, (u2 m hm).2⟩
        show _ = if m < n + 1 then k_mw su m else 0
        by_cases q : m = n
        · rw [q, jm_up_s, if_pos (show n < n + 1 by omega)]
          rfl
        · rw [jm_up_o q, (u2 m hm).1]
          show (if m < n then k_mw su m else 0) = _
          by_cases q2 : m < n
          · rw [if_pos q2, if_pos (by omega)]
          · rw [if_neg q2, if_neg (by omega)]
      · rw [c42]; exact u3
      · rw [c42]; exact u4
      · rw [c42]; exact u5
    · refine L 0 (by omega) (by omega) 0 0 (k_s0 w h sl fo ba (k_mw su)) M1 (by omega) (by omega) (by omega) (by omega) (k_s0_iv hg hc (k_mw_b hsb)) ⟨u1, ?_, u3, u4, u5⟩ hf q4 q5 q6 rfl
      intro m hm
      refine ⟨?_, (u2 m hm).2⟩
      rw [(u2 m hm).1]
      show (if m < n then k_mw su m else 0) = k_mw su m
      rw [if_pos (by have := hm.2; omega)]
  refine sc_56_S ?_
  refine p_57_S hg hc hbo hT h34 (fun v hv => g_pt_bd hg hbo hc hv) ?_
  intro M1 ht1 hf1 q4 q5 q6
  refine ⟨rfl, LW 0 (by omega) (by omega) M1 ?_ (jm_fr_mo hf1 (by decide)) q4 q5 q6⟩
  obtain ⟨u1, u2, u3, u4, u5⟩ := ht1
  refine ⟨u1, ?_, u3, u4, u5⟩
  intro m hm
  refine ⟨?_, (u2 m hm).2⟩
  rw [(u2 m hm).1]
  show (0 : Int) = if m < 0 then k_mw su m else 0
  rw [if_neg (by have := hm.1; omega)]
end Q6
