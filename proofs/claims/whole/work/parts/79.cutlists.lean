/-! CUTS: sizes, members, costs -/
def c_T (i : Int → Int) (M : jm_Mem) : Prop := ∃ r, c_rp r (M 63) ∧ c_b r ∧ (M 62 2 = 0 ∨ M 62 2 = 1) ∧ (∀ v, i v = 1 ↔ r v = M 62 2) ∧ c_b i
theorem c_T_mk {w h : Int} {sl fo ba ca : Int → Int} {side s t : Int} {M : jm_Mem} (h1 : c_rp (c_R w h sl fo ba ca (jm_B (side = 0)) (c_s side s t)) (M 63)) (h2 : M 62 2 = jm_B (side = 0)) : c_T (c_I w h sl fo ba ca side s t) M := by
  refine ⟨_, h1, c_R_b, ?_, ?_, c_I_b⟩
  · rw [h2]; have := jm_Bb (P := side = 0); omega
  · intro v
    have := c_R_b (w := w) (h := h) (sl := sl) (fo := fo) (ba := ba) (ca := ca) (a := jm_B (side = 0)) (s := c_s side s t) v
    rw [h2]
    show (if side = 0 then _ else _) = (1 : Int) ↔ _
    by_cases q : side = 0
    · rw [if_pos q, jm_Bt q]
    · rw [if_neg q, jm_Bf q]; omega
theorem c_T_fr {i : Int → Int} {cs : List Nat} {M M' : jm_Mem} (hf : jm_fr cs M M') (a : 62 ∉ cs) (b : 63 ∉ cs) (h : c_T i M) : c_T i M' := by
  unfold c_T at h ⊢
  rw [hf 62 a, hf 63 b]; exact h
theorem e_33 {w h : Int} {sl i : Int → Int} {M : jm_Mem} (hg : g_sd w h) (hT : g_tb w h sl M) (hi : c_T i M) {e : Int} (hE : g_E w h sl e) (Q : jm_Q) : jm_cl 33 [jm_R 62, jm_R 1, jm_I e] M Q ↔ Q (some (jm_I (jm_B (i (g_fr sl e) ≠ i (g_to w sl e))))) M := by
  refine jm_cl_e (fun Q hQ => sc_33 ?_) Q
  obtain ⟨b1, b2, -, -⟩ := g_Eb hg hE
  obtain ⟨d1, d2, -, -⟩ := t_E hg hT hE
  obtain ⟨n1, n2, n3, n4⟩ := g_Eb36 hg hE
  obtain ⟨r, h1, h2, h3, h4, h5⟩ := hi
  rw [d1, d2, h1 _ n1 n2, h1 _ n3 n4]
  have a1 := h4 (g_fr sl e)
  have a2 := h4 (g_to w sl e)
  have a3 := h5 (g_fr sl e)
  have a4 := h5 (g_to w sl e)
  have a5 := h2 (g_fr sl e)
  have a6 := h2 (g_to w sl e)
  refine ⟨b1, b2, n1, n2, b1, b2, n3, n4, fun z => ⟨by omega, by omega, ?_⟩, fun z => ⟨by omega, by omega, ?_⟩⟩
  · rwa [jm_Bf (by omega)] at hQ
  · rwa [jm_Bt (by omega)] at hQ
def c_sz (C : Int → Prop) [DecidablePred C] : List Int → Int
  | [] => 0
  | e :: l => (if C e then 1 else 0) + c_sz C l
def c_me (C : Int → Prop) [DecidablePred C] : Int → List Int → Int
  | _, [] => -1
  | k, e :: l => if C e then if k = 0 then e else c_me C (k - 1) l else c_me C k l
def c_co (C : Int → Prop) [DecidablePred C] (f : Int → Int) : List Int → Int
  | [] => 0
  | e :: l => (if C e then f e else 0) + c_co C f l
theorem c_me_neg {C : Int → Prop} [DecidablePred C] : ∀ {l : List Int} {k : Int}, k < 0 → c_me C k l = -1
  | [], _, _ => rfl
  | e :: l, k, h => by
    show (if C e then if k = 0 then e else c_me C (k - 1) l else c_me C k l) = -1
    by_cases q : C e
    · rw [if_pos q, if_neg (by omega)]; exact c_me_neg (by omega)
    · rw [if_neg q]; exact c_me_neg h
/-- what a cut's edge costs -/
abbrev c_fo (sl fo ba i : Int → Int) (e : Int) : Int := if i (g_fr sl e) = 1 then fo e else ba e
abbrev c_D (w : Int) (sl i : Int → Int) (e : Int) : Prop := i (g_fr sl e) ≠ i (g_to w sl e)
theorem e_34 {w h : Int} {sl i : Int → Int} {M : jm_Mem} (hg : g_sd w h) (hT : g_tb w h sl M) (hi : c_T i M) (Q : jm_Q) : jm_cl 34 [jm_R 62, jm_R 1] M Q ↔ Q (some (jm_I (c_sz (c_D w sl i) (g_el w h sl)))) M := by
  refine jm_cl_e (fun Q hQ => sc_34 ?_) Q
  have L : ∀ (rest pre : List Int), pre ++ rest = g_el w h sl → ∀ n, 0 ≤ n → n ≤ (pre.length : Int) → c_sz (c_D w sl i) (g_el w h sl) = n + c_sz (c_D w sl i) rest → jm_run 34 (4, [some (jm_R 62), some (jm_R 1), some (jm_I n), some (jm_I (pre.length : Int))], [], M) Q := by
    intro rest
    induction rest with
    | nil =>
      intro pre hp n n0 n1 hn
      refine sg_34_4 ⟨fun a => absurd a (tb_nil hT hp), fun _ => ?_⟩
      have hn : c_sz (c_D w sl i) (g_el w h sl) = n + 0 := hn
      rw [hn, Int.add_zero] at hQ
      exact hQ
    | cons e rest ih =>
      intro pre hp n n0 n1 hn
      obtain ⟨t1', t2, t3, t4, t5, t6, t7⟩ := tb_cons hg hT hp
      have ih := ih (pre ++ [e]) t6
      rw [t7] at ih
      have hn : c_sz (c_D w sl i) (g_el w h sl) = n + ((if c_D w sl i e then 1 else 0) + c_sz (c_D w sl i) rest) := hn
      refine sg_34_4 ⟨fun _ => ⟨t4, t5, ?_⟩, fun q => absurd t1' q⟩
      rw [t2, e_33 hg hT hi t3]
      refine ⟨_, rfl, fun z => ⟨⟨by omega, by omega⟩, ⟨by omega, by omega⟩, ih _ (by omega) (by omega) ?_⟩, fun z => ⟨⟨by omega, by omega⟩, ⟨by omega, by omega⟩, ih _ (by omega) (by omega) ?_⟩⟩
      · rw [if_neg (jm_B0.1 z)] at hn; omega
      · rw [if_pos (jm_Bn.1 z)] at hn; omega
  exact L (g_el w h sl) [] rfl 0 (by omega) (by show (0 : Int) ≤ ((0 : Nat) : Int); omega) (by omega)
theorem e_35 {w h : Int} {sl i : Int → Int} {M : jm_Mem} (hg : g_sd w h) (hT : g_tb w h sl M) (hi : c_T i M) (k : Int) (Q : jm_Q) : jm_cl 35 [jm_R 62, jm_R 1, jm_I k] M Q ↔ Q (some (jm_I (c_me (c_D w sl i) k (g_el w h sl)))) M := by
  refine jm_cl_e (fun Q hQ => sc_35 ?_) Q
  have L : ∀ (rest pre : List Int), pre ++ rest = g_el w h sl → ∀ n o5, 0 ≤ n → n ≤ (pre.length : Int) → c_me (c_D w sl i) k (g_el w h sl) = c_me (c_D w sl i) (k - n) rest → jm_run 35 (4, [some (jm_R 62), some (jm_R 1), some (jm_I k), some (jm_I n), some (jm_I (pre.length : Int)), o5], [], M) Q := by
    intro rest
    induction rest with
    | nil =>
      intro pre hp n o5 n0 n1 hn
      refine sg_35_4 ⟨fun a => absurd a (tb_nil hT hp), fun _ => ?_⟩
      have hn : c_me (c_D w sl i) k (g_el w h sl) = -1 := hn
      rw [hn] at hQ
      exact hQ
    | cons e rest ih =>
      intro pre hp n o5 n0 n1 hn
      obtain ⟨t1', t2, t3, t4, t5, t6, t7⟩ := tb_cons hg hT hp
      have ih := ih (pre ++ [e]) t6
      rw [t7] at ih
      have hn : c_me (c_D w sl i) k (g_el w h sl) = if c_D w sl i e then if k - n = 0 then e else c_me (c_D w sl i) (k - n - 1) rest else c_me (c_D w sl i) (k - n) rest := hn
      refine sg_35_4 ⟨fun _ => ⟨t4, t5, ?_⟩, fun q => absurd t1' q⟩
      rw [t2, e_33 hg hT hi t3]
      refine ⟨_, rfl, fun z => ⟨⟨by omega, by omega⟩, ih _ _ (by omega) (by omega) ?_⟩, fun z => ⟨fun y => ?_, fun y => ⟨⟨by omega, by omega⟩, ⟨by omega, by omega⟩, ih _ _ (by omega) (by omega) ?_⟩⟩⟩
      · rwa [if_neg (jm_B0.1 z)] at hn
      · rw [if_pos (jm_Bn.1 z), if_pos (by omega)] at hn
        rwa [hn] at hQ
      · rw [if_pos (jm_Bn.1 z), if_neg (by omega)] at hn
        rw [show k - (n + 1) = k - n - 1 by omega]; exact hn
  exact L (g_el w h sl) [] rfl 0 none (by omega) (by show (0 : Int) ≤ ((0 : Nat) : Int); omega) (by rw [Int.sub_zero])
theorem e_36 {w h : Int} {sl i fo ba : Int → Int} {M : jm_Mem} (hg : g_sd w h) (hT : g_tb w h sl M) (hi : c_T i M) (hfo : M 4 = fo) (hba : M 5 = ba) (hbo : g_bo fo ba) (Q : jm_Q) : jm_cl 36 [jm_R 62, jm_R 1] M Q ↔ Q (some (jm_I (c_co (c_D w sl i) (c_fo sl fo ba i) (g_el w h sl)))) M := by
  refine jm_cl_e (fun Q hQ => sc_36 ?_) Q
  have L : ∀ (rest pre : List Int), pre ++ rest = g_el w h sl → ∀ n o4 o5, -(100 * (pre.length : Int)) ≤ n → n ≤ 100 * (pre.length : Int) → c_co (c_D w sl i) (c_fo sl fo ba i) (g_el w h sl) = n + c_co (c_D w sl i) (c_fo sl fo ba i) rest → jm_run 36 (4, [some (jm_R 62), some (jm_R 1), some (jm_I n), some (jm_I (pre.length : Int)), o4, o5], [], M) Q := by
    intro rest
    induction rest with
    | nil =>
      intro pre hp n o4 o5 n0 n1 hn
      refine sg_36_4 ⟨fun a => absurd a (tb_nil hT hp), fun _ => ?_⟩
      have hn : c_co (c_D w sl i) (c_fo sl fo ba i) (g_el w h sl) = n + 0 := hn
      rw [hn, Int.add_zero] at hQ
      exact hQ
    | cons e rest ih =>
      intro pre hp n o4 o5 n0 n1 hn
      obtain ⟨t1', t2, t3, t4, t5, t6, t7⟩ := tb_cons hg hT hp
      have ih := ih (pre ++ [e]) t6
      rw [t7] at ih
      have hn : c_co (c_D w sl i) (c_fo sl fo ba i) (g_el w h sl) = n + ((if c_D w sl i e then c_fo sl fo ba i e else 0) + c_co (c_D w sl i) (c_fo sl fo ba i) rest) := hn
      obtain ⟨b1, b2, -, -⟩ := g_Eb hg t3
      obtain ⟨d1, d2, -, -⟩ := t_E hg hT t3
      obtain ⟨m1, m2, m3, m4⟩ := g_Eb36 hg t3
      have ho := hbo e
      refine sg_36_4 ⟨fun _ => ⟨t4, t5, ?_⟩, fun q => absurd t1' q⟩
      rw [t2, e_33 hg hT hi t3]
      have go : ∀ s0 o5', c_D w sl i e → (s0 = M 62 2 ↔ i (g_fr sl e) = 1) → jm_run 36 (30, [some (jm_R 62), some (jm_R 1), some (jm_I n), some (jm_I (pre.length : Int)), some (jm_I e), o5'], [jm_I s0], M) Q := by
        intro s0 o5' hD hs
        rw [if_pos hD] at hn
        have fin : ∀ x y, x = c_fo sl fo ba i e → jm_run 36 (49, [some (jm_R 62), some (jm_R 1), some (jm_I n), some (jm_I (pre.length : Int)), some (jm_I e), some (jm_I y)], [jm_I x, jm_I n], M) Q := by
          intro x y hx
          have hxb : -100 ≤ x ∧ x ≤ 100 := by
            rw [hx]
            show -100 ≤ (if i (g_fr sl e) = 1 then fo e else ba e) ∧ (if i (g_fr sl e) = 1 then fo e else ba e) ≤ 100
            by_cases z : i (g_fr sl e) = 1
            · rw [if_pos z]; omega
            · rw [if_neg z]; omega
          exact sg_36_49 ⟨⟨by omega, by omega⟩, ⟨by omega, by omega⟩, ih _ _ _ (by omega) (by omega) (by rw [hx]; omega)⟩
        refine sg_36_30 ⟨fun z => ⟨fun y => by omega, fun _ => ⟨b1, b2, fin _ _ ?_⟩⟩, fun z => ⟨fun _ => ⟨b1, b2, fin _ _ ?_⟩, fun y => absurd rfl y⟩⟩
        · rw [hfo]; exact (if_pos (hs.1 z)).symm
        · rw [hba]; exact (if_neg (fun y => z (hs.2 y))).symm
      refine ⟨_, rfl, fun z => ⟨⟨by omega, by omega⟩, ih _ _ _ (by omega) (by omega) ?_⟩, fun z => ⟨b1, b2, ?_⟩⟩
      · rw [if_neg (jm_B0.1 z)] at hn; omega
      · obtain ⟨r, h1, h2, h3, h4, h5⟩ := hi
        rw [d1, h1 _ m1 m2]
        have a1 := h4 (g_fr sl e)
        have a5 := h2 (g_fr sl e)
        refine ⟨m1, m2, fun y => go _ _ (jm_Bn.1 z) (by omega), fun y => go _ _ (jm_Bn.1 z) (by omega)⟩
  exact L (g_el w h sl) [] rfl 0 none none (by show -(100 * ((0 : Nat) : Int)) ≤ 0; omega) (by show (0 : Int) ≤ 100 * ((0 : Nat) : Int); omega) (by omega)
/-- what cut answers -/
def c_cv (w h : Int) (sl fo ba i : Int → Int) (k : Int) : Int :=
  if k = -2 then c_co (c_D w sl i) (c_fo sl fo ba i) (g_el w h sl) else if k = -1 then c_sz (c_D w sl i) (g_el w h sl) else if c_me (c_D w sl i) k (g_el w h sl) = -1 then -101 else c_me (c_D w sl i) k (g_el w h sl)
theorem p_193_21 {w h : Int} {sl i fo ba : Int → Int} {x1 k : Int} {M : jm_Mem} {Q : jm_Q} (hg : g_sd w h) (hX : r_X w h sl M) (hi : c_rp i (M 91)) (hib : c_b i) (hfo : M 69 = fo) (hba : M 70 = ba) (hbo : g_bo fo ba) (hk : -2 ≤ k) (hQ : Q (some (jm_I (c_cv w h sl fo ba i k))) M) : jm_run 193 (21, [some (jm_R 67), some (jm_I x1), some (jm_I k), some (jm_I 0), some (jm_I 0), some (jm_I 0)], [], M) Q := by
  have L : ∀ e, e ≤ 108 → 0 ≤ e → ∀ n s, 0 ≤ n → n ≤ e → -(100 * e) ≤ s → s ≤ 100 * e → c_sz (c_D w sl i) (g_el w h sl) = n + c_sz (c_D w sl i) (g_ls (fun e => g_E w h sl e) 108 e) → c_co (c_D w sl i) (c_fo sl fo ba i) (g_el w h sl) = s + c_co (c_D w sl i) (c_fo sl fo ba i) (g_ls (fun e => g_E w h sl e) 108 e) → c_me (c_D w sl i) k (g_el w h sl) = c_me (c_D w sl i) (k - n) (g_ls (fun e => g_E w h sl e) 108 e) → jm_run 193 (21, [some (jm_R 67), some (jm_I x1), some (jm_I k), some (jm_I n), some (jm_I s), some (jm_I e)], [], M) Q := by
    refine jm_dn ?_
    intro e he ih e0 n s n0 n1 s0 s1 h1 h2 h3
    by_cases q : e < 108
    · have ih := ih q (by omega)
      refine sg_193_21 ⟨fun _ => ?_, fun p => absurd q p⟩
      rw [r_191 hg hX hi e0 q]
      refine ⟨_, rfl, fun p => ⟨⟨by omega, by omega⟩, ih n s n0 (by omega) (by omega) (by omega) ?_ ?_ ?_⟩, fun p => ?_⟩
      · rw [jm_B0] at p
        by_cases hE : g_E w h sl e
        · rw [g_ls_y q hE] at h1
          have h1 : c_sz (c_D w sl i) (g_el w h sl) = n + ((if c_D w sl i e then 1 else 0) + c_sz (c_D w sl i) (g_ls (fun e => g_E w h sl e) 108 (e + 1))) := h1
          rw [if_neg (fun z => p ⟨hE, z⟩)] at h1
          omega
        · rw [g_ls_n q hE] at h1; exact h1
      · rw [jm_B0] at p
        by_cases hE : g_E w h sl e
        · rw [g_ls_y q hE] at h2
          have h2 : c_co (c_D w sl i) (c_fo sl fo ba i) (g_el w h sl) = s + ((if c_D w sl i e then c_fo sl fo ba i e else 0) + c_co (c_D w sl i) (c_fo sl fo ba i) (g_ls (fun e => g_E w h sl e) 108 (e + 1))) := h2
          rw [if_neg (c := c_D w sl i e) (fun z => p ⟨hE, z⟩)] at h2
          omega
        · rw [g_ls_n q hE] at h2; exact h2
      · rw [jm_B0] at p
        by_cases hE : g_E w h sl e
        · rw [g_ls_y q hE] at h3
          have h3 : c_me (c_D w sl i) k (g_el w h sl) = if c_D w sl i e then if k - n = 0 then e else c_me (c_D w sl i) (k - n - 1) (g_ls (fun e => g_E w h sl e) 108 (e + 1)) else c_me (c_D w sl i) (k - n) (g_ls (fun e => g_E w h sl e) 108 (e + 1)) := h3
          rw [if_neg (fun z => p ⟨hE, z⟩)] at h3
          exact h3
        · rw [g_ls_n q hE] at h3; exact h3
      · obtain ⟨hE, hD⟩ := jm_Bn.1 p
        rw [g_ls_y q hE] at h1 h2 h3
        have h1 : c_sz (c_D w sl i) (g_el w h sl) = n + ((if c_D w sl i e then 1 else 0) + c_sz (c_D w sl i) (g_ls (fun e => g_E w h sl e) 108 (e + 1))) := h1
        have h2 : c_co (c_D w sl i) (c_fo sl fo ba i) (g_el w h sl) = s + ((if c_D w sl i e then c_fo sl fo ba i e else 0) + c_co (c_D w sl i) (c_fo sl fo ba i) (g_ls (fun e => g_E w h sl e) 108 (e + 1))) := h2
        have h3 : c_me (c_D w sl i) k (g_el w h sl) = if c_D w sl i e then if k - n = 0 then e else c_me (c_D w sl i) (k - n - 1) (g_ls (fun e => g_E w h sl e) 108 (e + 1)) else c_me (c_D w sl i) (k - n) (g_ls (fun e => g_E w h sl e) 108 (e + 1)) := h3
        rw [if_pos hD] at h1
        rw [if_pos (c := c_D w sl i e) hD] at h2
        rw [if_pos hD] at h3
        refine ⟨fun y => ?_, fun y => ⟨⟨by omega, by omega⟩, ?_⟩⟩
        · rw [if_pos (by omega)] at h3
          unfold c_cv at hQ
          rwa [if_neg (by omega), if_neg (by omega), h3, if_neg (by omega)] at hQ
        · rw [if_neg (by omega)] at h3
          rw [r_125 hX e0 q]
          obtain ⟨m1, m2, m3, m4⟩ := g_Eb36 hg hE
          have ho := hbo e
          have hbb := hib (g_fr sl e)
          refine ⟨_, rfl, m1, m2, fun z => ?_, fun z => ?_⟩
          · rw [hi _ m1 m2] at z
            rw [hba]
            have h2 : c_co (c_D w sl i) (c_fo sl fo ba i) (g_el w h sl) = s + ((if i (g_fr sl e) = 1 then fo e else ba e) + c_co (c_D w sl i) (c_fo sl fo ba i) (g_ls (fun e => g_E w h sl e) 108 (e + 1))) := h2
            rw [if_neg (by omega)] at h2
            refine ⟨e0, q, ⟨by omega, by omega⟩, ⟨by omega, by omega⟩, ih _ _ (by omega) (by omega) (by omega) (by omega) (by omega) (by omega) ?_⟩
            rw [show k - (n + 1) = k - n - 1 by omega]; exact h3
          · rw [hi _ m1 m2] at z
            rw [hfo]
            have h2 : c_co (c_D w sl i) (c_fo sl fo ba i) (g_el w h sl) = s + ((if i (g_fr sl e) = 1 then fo e else ba e) + c_co (c_D w sl i) (c_fo sl fo ba i) (g_ls (fun e => g_E w h sl e) 108 (e + 1))) := h2
            rw [if_pos (by omega)] at h2
            refine ⟨e0, q, ⟨by omega, by omega⟩, ⟨by omega, by omega⟩, ih _ _ (by omega) (by omega) (by omega) (by omega) (by omega) (by omega) ?_⟩
            rw [show k - (n + 1) = k - n - 1 by omega]; exact h3
    · rw [g_ls_z (by omega)] at h1 h2 h3
      have h1 : c_sz (c_D w sl i) (g_el w h sl) = n + 0 := h1
      have h2 : c_co (c_D w sl i) (c_fo sl fo ba i) (g_el w h sl) = s + 0 := h2
      have h3 : c_me (c_D w sl i) k (g_el w h sl) = -1 := h3
      unfold c_cv at hQ
      refine sg_193_21 ⟨fun p => absurd p q, fun _ => ⟨fun y => ?_, fun y => ⟨fun z => ?_, fun z => ?_⟩⟩⟩
      · rwa [if_neg (by omega), if_pos y, h1, Int.add_zero] at hQ
      · rwa [if_pos z, h2, Int.add_zero] at hQ
      · rwa [if_neg z, if_neg y, if_pos h3] at hQ
  exact L 0 (by omega) (by omega) 0 0 (by omega) (by omega) (by omega) (by omega) (Int.zero_add _).symm (Int.zero_add _).symm (by rw [Int.sub_zero])
