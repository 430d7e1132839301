/-! CUTS: what is reached -/
section
variable (F T : Int → Int) (sp : Int → Int → Int) (a : Int)
def c_ok (r : Int → Int) (e : Int) : Bool := decide (r (F e) ≠ r (T e) ∧ 0 < sp e (jm_B (r (F e) = a)))
def c_t (r : Int → Int) (e : Int) : Int → Int := if c_ok F T sp a r e = true then jm_up (jm_up r (F e) 1) (T e) 1 else r
def c_r : List Int → (Int → Int) → (Int → Int)
  | [], r => r
  | e :: l, r => c_r l (c_t F T sp a r e)
def c_fl : List Int → (Int → Int) → Bool
  | [], _ => false
  | e :: l, r => c_ok F T sp a r e || c_fl l (c_t F T sp a r e)
def c_n (l : List Int) : Nat → (Int → Int) → (Int → Int)
  | 0, r => r
  | n + 1, r => if c_fl F T sp a l r = true then c_n l n (c_r F T sp a l r) else r
end
abbrev c_b (r : Int → Int) : Prop := ∀ v, r v = 0 ∨ r v = 1
def c_mu (r : Int → Int) : Nat := (g_ls (fun v => r v = 0) 36 0).length
theorem c_mu_go {r r' : Int → Int} {x : Int} (hm : ∀ v, r v ≠ 0 → r' v ≠ 0) : ∀ e, e ≤ 36 → ((g_ls (fun v => r' v = 0) 36 e).length ≤ (g_ls (fun v => r v = 0) 36 e).length ∧ (r x = 0 → r' x ≠ 0 → e ≤ x → x < 36 → (g_ls (fun v => r' v = 0) 36 e).length < (g_ls (fun v => r v = 0) 36 e).length)) := by
  refine jm_dn ?_
  intro e he ih
  by_cases q : e < 36
  · obtain ⟨i1, i2⟩ := ih q
    by_cases h1 : r e = 0
    · rw [g_ls_y (P := fun v => r v = 0) q h1]
      by_cases h2 : r' e = 0
      · rw [g_ls_y (P := fun v => r' v = 0) q h2]
        simp only [List.length_cons]
        refine ⟨by omega, fun a1 a2 a3 a4 => ?_⟩
        by_cases hx : x = e
        · rw [hx] at a2; exact absurd h2 a2
        · have := i2 a1 a2 (by omega) a4
          omega
      · rw [g_ls_n (P := fun v => r' v = 0) q h2]
        simp only [List.length_cons]
        exact ⟨by omega, fun _ _ _ _ => by omega⟩
    · rw [g_ls_n (P := fun v => r v = 0) q h1, g_ls_n (P := fun v => r' v = 0) q (hm e h1)]
      refine ⟨i1, fun a1 a2 a3 a4 => i2 a1 a2 ?_ a4⟩
      have : x ≠ e := fun hx => h1 (by rw [← hx]; exact a1)
      omega
  · rw [g_ls_z (P := fun v => r v = 0) (by omega), g_ls_z (P := fun v => r' v = 0) (by omega)]
    exact ⟨Nat.le_refl _, fun _ _ _ _ => by omega⟩
section
variable {F T : Int → Int} {sp : Int → Int → Int} {a : Int}
theorem c_t_t {r : Int → Int} {e : Int} (h : c_ok F T sp a r e = true) : c_t F T sp a r e = jm_up (jm_up r (F e) 1) (T e) 1 := if_pos h
theorem c_t_f {r : Int → Int} {e : Int} (h : c_ok F T sp a r e = false) : c_t F T sp a r e = r := if_neg (by rw [h]; simp)
theorem c_t_b {r : Int → Int} {e : Int} (h : c_b r) : c_b (c_t F T sp a r e) := by
  intro v
  cases hk : c_ok F T sp a r e with
  | false => rw [c_t_f hk]; exact h v
  | true =>
    rw [c_t_t hk, jm_up_e, jm_up_e]
    by_cases p : v = T e
    · rw [if_pos p]; exact Or.inr rfl
    · rw [if_neg p]
      by_cases q : v = F e
      · rw [if_pos q]; exact Or.inr rfl
      · rw [if_neg q]; exact h v
theorem c_t_m {r : Int → Int} {e : Int} {v : Int} (h : r v ≠ 0) : c_t F T sp a r e v ≠ 0 := by
  cases hk : c_ok F T sp a r e with
  | false => rw [c_t_f hk]; exact h
  | true =>
    rw [c_t_t hk, jm_up_e, jm_up_e]
    by_cases p : v = T e
    · rw [if_pos p]; omega
    · rw [if_neg p]
      by_cases q : v = F e
      · rw [if_pos q]; omega
      · rw [if_neg q]; exact h
theorem c_t_n {r : Int → Int} {e : Int} (hb : c_b r) (h : c_ok F T sp a r e = true) : ∃ v, (v = F e ∨ v = T e) ∧ r v = 0 ∧ c_t F T sp a r e v ≠ 0 := by
  have h' := (of_decide_eq_true h).1
  have : c_t F T sp a r e (F e) ≠ 0 ∧ c_t F T sp a r e (T e) ≠ 0 := by
    rw [c_t_t h]
    refine ⟨?_, by rw [jm_up_s]; omega⟩
    rw [jm_up_e]
    by_cases p : F e = T e
    · rw [if_pos p]; omega
    · rw [if_neg p, jm_up_s]; omega
  rcases hb (F e) with q | q
  · exact ⟨F e, Or.inl rfl, q, this.1⟩
  · rcases hb (T e) with q' | q'
    · exact ⟨T e, Or.inr rfl, q', this.2⟩
    · omega
theorem c_r_b : ∀ {l : List Int} {r : Int → Int}, c_b r → c_b (c_r F T sp a l r)
  | [], _, h => h
  | _ :: l, _, h => c_r_b (l := l) (c_t_b h)
theorem c_r_m : ∀ {l : List Int} {r : Int → Int} {v : Int}, r v ≠ 0 → c_r F T sp a l r v ≠ 0
  | [], _, _, h => h
  | _ :: l, _, _, h => c_r_m (l := l) (c_t_m h)
theorem c_r_n : ∀ {l : List Int} {r : Int → Int}, c_b r → c_fl F T sp a l r = true → ∃ e v, e ∈ l ∧ (v = F e ∨ v = T e) ∧ r v = 0 ∧ c_r F T sp a l r v ≠ 0
  | [], _, _, h => by cases h
  | e :: l, r, hb, h => by
    have h : (c_ok F T sp a r e || c_fl F T sp a l (c_t F T sp a r e)) = true := h
    show ∃ e' v, e' ∈ e :: l ∧ (v = F e' ∨ v = T e') ∧ r v = 0 ∧ c_r F T sp a l (c_t F T sp a r e) v ≠ 0
    cases hk : c_ok F T sp a r e with
    | true =>
      obtain ⟨v, h1, h2, h3⟩ := c_t_n hb hk
      exact ⟨e, v, List.mem_cons_self, h1, h2, c_r_m h3⟩
    | false =>
      rw [hk, Bool.false_or] at h
      rw [c_t_f hk] at h ⊢
      obtain ⟨e', v, h1, h2, h3, h4⟩ := c_r_n hb h
      exact ⟨e', v, List.mem_cons_of_mem _ h1, h2, h3, h4⟩
theorem c_r_z : ∀ {l : List Int} {r : Int → Int}, c_fl F T sp a l r = false → c_r F T sp a l r = r
  | [], _, _ => rfl
  | e :: l, r, h => by
    have h : (c_ok F T sp a r e || c_fl F T sp a l (c_t F T sp a r e)) = false := h
    rw [Bool.or_eq_false_iff] at h
    show c_r F T sp a l (c_t F T sp a r e) = r
    rw [c_t_f h.1] at h ⊢
    exact c_r_z h.2
theorem c_mu_lt {l : List Int} {r : Int → Int} (hb : c_b r) (hl : ∀ e ∈ l, 0 ≤ F e ∧ F e < 36 ∧ 0 ≤ T e ∧ T e < 36) (h : c_fl F T sp a l r = true) : c_mu (c_r F T sp a l r) < c_mu r := by
  obtain ⟨e, v, h1, h2, h3, h4⟩ := c_r_n hb h
  obtain ⟨b1, b2, b3, b4⟩ := hl e h1
  refine (c_mu_go (x := v) (fun u hu => c_r_m hu) 0 (by omega)).2 h3 h4 ?_ ?_
  · rcases h2 with q | q <;> omega
  · rcases h2 with q | q <;> omega
theorem c_mu_0 {s : Int} (h0 : 0 ≤ s) (h1 : s < 36) : c_mu (fun v => if v = s then 1 else 0) ≤ 35 := by
  have h := (c_mu_go (r := fun _ => 0) (r' := fun v => if v = s then 1 else 0) (x := s) (fun v hv => absurd rfl hv) 0 (by omega)).2 rfl (by rw [if_pos rfl]; omega) h0 h1
  have h2 := g_ls_len (P := fun v => (fun _ => 0 : Int → Int) v = 0) (N := 36) 0 (by omega)
  have h : (g_ls (fun v => (fun v => if v = s then 1 else 0 : Int → Int) v = 0) 36 0).length < (g_ls (fun v => (fun _ => 0 : Int → Int) v = 0) 36 0).length := h
  unfold c_mu
  omega
theorem c_n_b : ∀ {n : Nat} {l : List Int} {r : Int → Int}, c_b r → c_b (c_n F T sp a l n r)
  | 0, _, _, h => h
  | n + 1, l, r, h => by
    show c_b (if c_fl F T sp a l r = true then c_n F T sp a l n (c_r F T sp a l r) else r)
    by_cases q : c_fl F T sp a l r = true
    · rw [if_pos q]; exact c_n_b (c_r_b h)
    · rw [if_neg q]; exact h
theorem c_n_t {n : Nat} {l : List Int} {r : Int → Int} (h : c_fl F T sp a l r = true) : c_n F T sp a l (n + 1) r = c_n F T sp a l n (c_r F T sp a l r) := if_pos h
theorem c_n_f {n : Nat} {l : List Int} {r : Int → Int} (h : c_fl F T sp a l r = false) : c_n F T sp a l n r = r := by
  cases n with
  | zero => rfl
  | succ n => exact if_neg (by rw [h]; simp)
end
def c_rp (r f : Int → Int) : Prop := ∀ v, 0 ≤ v → v < 36 → f v = r v
def c_sp (fo ba ca : Int → Int) (e b : Int) : Int := if b = 0 then ba e + ca e else fo e - ca e
/-- bounds of what edges carry -/
abbrev c_cb (w h : Int) (sl ca : Int → Int) : Prop := ∀ e, g_E w h sl e → -1000 ≤ ca e ∧ ca e ≤ 1000
abbrev c_K (w h : Int) (sl fo ba ca : Int → Int) (a : Int) (l : List Int) (r : Int → Int) : Int → Int := c_r (g_fr sl) (g_to w sl) (c_sp fo ba ca) a l r
abbrev c_L (w h : Int) (sl fo ba ca : Int → Int) (a : Int) (l : List Int) (r : Int → Int) : Bool := c_fl (g_fr sl) (g_to w sl) (c_sp fo ba ca) a l r
theorem g_Eb36 {w h : Int} {sl : Int → Int} (hg : g_sd w h) {e : Int} (he : g_E w h sl e) : 0 ≤ g_fr sl e ∧ g_fr sl e < 36 ∧ 0 ≤ g_to w sl e ∧ g_to w sl e < 36 := by
  obtain ⟨a, b, -⟩ := g_ends hg he
  have := g_mul hg
  exact ⟨a.1, by omega, b.1, by omega⟩
theorem c_up2 {r f : Int → Int} {x y : Int} (h : c_rp r f) : c_rp (jm_up (jm_up r x 1) y 1) (jm_up (jm_up f x 1) y 1) := by
  intro v v0 v1
  rw [jm_up_e, jm_up_e, jm_up_e, jm_up_e, h v v0 v1]
theorem p_32 {w h : Int} {sl fo ba ca r : Int → Int} {a : Int} {M : jm_Mem} {Q : jm_Q} (hg : g_ok w h sl) (hT : g_tb w h sl M) (hfo : M 4 = fo) (hba : M 5 = ba) (hbo : g_bo fo ba) (hca : ∀ e, g_E w h sl e → M 43 e = ca e) (hcb : c_cb w h sl ca) (ha : M 62 2 = a) (hr : c_rp r (M 63)) (hb : c_b r) (hQ : ∀ M', c_rp (c_K w h sl fo ba ca a (g_el w h sl) r) (M' 63) → jm_fr [63] M M' → Q (some (jm_I (jm_B (c_L w h sl fo ba ca a (g_el w h sl) r = true)))) M') : jm_cl 32 [jm_R 62, jm_R 1, jm_R 42] M Q := by
  have L : ∀ (rest pre : List Int), pre ++ rest = g_el w h sl → ∀ (o5 o6 o7 o8 : Option jm_V) (r1 : Int → Int) (M1 : jm_Mem) (fl : Bool), jm_fr [63] M M1 → c_rp r1 (M1 63) → c_b r1 → c_K w h sl fo ba ca a (g_el w h sl) r = c_K w h sl fo ba ca a rest r1 → c_L w h sl fo ba ca a (g_el w h sl) r = (fl || c_L w h sl fo ba ca a rest r1) → jm_run 32 (4, [some (jm_R 62), some (jm_R 1), some (jm_R 42), some (jm_I (jm_B (fl = true))), some (jm_I (pre.length : Int)), o5, o6, o7, o8], [], M1) Q := by
    intro rest
    induction rest with
    | nil =>
      intro pre hp o5 o6 o7 o8 r1 M1 fl hf hr1 hb1 h1 h2
      have hT1 := g_tb_fr hf (by decide) hT
      refine sg_32_4 ⟨fun a => absurd a (tb_nil hT1 hp), fun _ => ⟨jm_Bb.1, jm_Bb.2, ?_⟩⟩
      have h1 : c_K w h sl fo ba ca a (g_el w h sl) r = r1 := h1
      have h2 : c_L w h sl fo ba ca a (g_el w h sl) r = (fl || false) := h2
      rw [h1, h2, Bool.or_false] at hQ
      exact hQ M1 hr1 hf
    | cons e rest ih =>
      intro pre hp o5 o6 o7 o8 r1 M1 fl hf hr1 hb1 h1 h2
      have hT1 := g_tb_fr hf (by decide) hT
      obtain ⟨t1', t2, t3, t4, t5, t6, t7⟩ := tb_cons hg.1 hT1 hp
      obtain ⟨b1, b2, -, -⟩ := g_Eb hg.1 t3
      obtain ⟨d1, d2, d3, d4⟩ := t_E hg.1 hT1 t3
      obtain ⟨n1, n2, n3, n4⟩ := g_Eb36 hg.1 t3
      have m4 : M1 4 = fo := by rw [hf 4 (by decide)]; exact hfo
      have m5 : M1 5 = ba := by rw [hf 5 (by decide)]; exact hba
      have m43 : M1 43 e = ca e := by rw [hf 43 (by decide)]; exact hca e t3
      have m62 : M1 62 2 = a := by rw [hf 62 (by decide)]; exact ha
      have hx1 : c_K w h sl fo ba ca a (e :: rest) r1 = c_K w h sl fo ba ca a rest (c_t (g_fr sl) (g_to w sl) (c_sp fo ba ca) a r1 e) := rfl
      have hx2 : c_L w h sl fo ba ca a (e :: rest) r1 = (c_ok (g_fr sl) (g_to w sl) (c_sp fo ba ca) a r1 e || c_L w h sl fo ba ca a rest (c_t (g_fr sl) (g_to w sl) (c_sp fo ba ca) a r1 e)) := rfl
      rw [hx1] at h1
      rw [hx2] at h2
      have ih := fun o5 o6 o7 o8 => ih (pre ++ [e]) t6 o5 o6 o7 o8
      rw [t7] at ih
      have e1 := hr1 (g_fr sl e) n1 n2
      have e2 := hr1 (g_to w sl e) n3 n4
      have hcc := hcb e t3
      -- nothing fires
      have N : ∀ o8', c_ok (g_fr sl) (g_to w sl) (c_sp fo ba ca) a r1 e = false → jm_run 32 (67, [some (jm_R 62), some (jm_R 1), some (jm_R 42), some (jm_I (jm_B (fl = true))), some (jm_I (pre.length : Int)), some (jm_I e), some (jm_I (g_fr sl e)), some (jm_I (g_to w sl e)), o8'], [], M1) Q := by
        intro o8' hk
        rw [hk, Bool.false_or, c_t_f hk] at h2
        rw [c_t_f hk] at h1
        exact sg_32_67 ⟨⟨by omega, by omega⟩, ih _ _ _ _ r1 M1 fl hf hr1 hb1 h1 h2⟩
      have Y : ∀ o8', c_ok (g_fr sl) (g_to w sl) (c_sp fo ba ca) a r1 e = true → jm_run 32 (67, [some (jm_R 62), some (jm_R 1), some (jm_R 42), some (jm_I 1), some (jm_I (pre.length : Int)), some (jm_I e), some (jm_I (g_fr sl e)), some (jm_I (g_to w sl e)), o8'], [], jm_st (jm_st M1 63 (g_fr sl e) 1) 63 (g_to w sl e) 1) Q := by
        intro o8' hk
        rw [hk, Bool.true_or] at h2
        have := ih (some (jm_I e)) (some (jm_I (g_fr sl e))) (some (jm_I (g_to w sl e))) o8' (c_t (g_fr sl) (g_to w sl) (c_sp fo ba ca) a r1 e) (jm_st (jm_st M1 63 (g_fr sl e) 1) 63 (g_to w sl e) 1) true (jm_fr_tr hf (jm_fr_tr (jm_fr_st (by decide)) (jm_fr_st (by decide)))) (by
          rw [c_t_t hk]
          simp only [jm_st_e, reduceIte]
          exact c_up2 hr1) (c_t_b hb1) h1 (by rw [h2, Bool.or_true, Bool.true_or])
        rw [jm_Bt rfl] at this
        exact sg_32_67 ⟨⟨by omega, by omega⟩, this⟩
      refine sg_32_4 ⟨fun _ => ⟨t4, t5, ?_⟩, fun q => absurd t1' q⟩
      rw [t2, d1, d2, e1, e2]
      have G : ∀ s0 : Int, r1 (g_fr sl e) ≠ r1 (g_to w sl e) → s0 = r1 (g_fr sl e) → jm_run 32 (42, [some (jm_R 62), some (jm_R 1), some (jm_R 42), some (jm_I (jm_B (fl = true))), some (jm_I (pre.length : Int)), some (jm_I e), some (jm_I (g_fr sl e)), some (jm_I (g_to w sl e)), o8], [jm_I s0], M1) Q := by
        intro s0 hne hs
        have hS : ∀ b, jm_B (r1 (g_fr sl e) = a) = b → ((0 < (if b = 0 then M1 5 e + M1 43 e else M1 4 e - M1 43 e)) ↔ c_ok (g_fr sl) (g_to w sl) (c_sp fo ba ca) a r1 e = true) := by
          intro b hb
          unfold c_ok c_sp
          rw [hb, decide_eq_true_iff, m4, m5, m43]
          exact ⟨fun q => ⟨hne, q⟩, fun q => q.2⟩
        refine sg_32_42 ⟨fun q => ?_, fun q => ?_⟩
        · rw [e_60_S b1 b2 (by rw [m4, m5]; exact hbo) (by rw [m43]; exact hcc)]
          have hS := hS 1 (jm_Bt (by rw [← hs, q, m62]))
          refine ⟨_, rfl, fun p => ⟨n1, n2, n3, n4, Y _ (hS.1 p)⟩, fun p => N _ ?_⟩
          rw [← Bool.not_eq_true]
          exact fun z => p (hS.2 z)
        · rw [e_60_S b1 b2 (by rw [m4, m5]; exact hbo) (by rw [m43]; exact hcc)]
          have hS := hS 0 (jm_Bf (by rw [← hs, ← m62]; exact q))
          refine ⟨_, rfl, fun p => ⟨n1, n2, n3, n4, Y _ (hS.1 p)⟩, fun p => N _ ?_⟩
          rw [← Bool.not_eq_true]
          exact fun z => p (hS.2 z)
      refine ⟨b1, b2, b1, b2, n1, n2, n3, n4, fun q => N _ ?_, fun q => ⟨n1, n2, fun p => G 1 q p.symm, fun p => G 0 q ?_⟩⟩
      · exact decide_eq_false (fun z => z.1 q)
      · rcases hb1 (g_fr sl e) with z | z
        · exact z.symm
        · exact absurd z p
  refine sc_32 ?_
  have := L (g_el w h sl) [] rfl none none none none r M false (jm_fr_rfl _ _) hr hb rfl (by rw [Bool.false_or])
  rw [jm_Bf (by simp)] at this
  exact this
abbrev c_0 (s : Int) : Int → Int := fun v => if v = s then 1 else 0
theorem c_0_b (s : Int) : c_b (c_0 s) := fun v => by
  by_cases q : v = s
  · exact Or.inr (if_pos q)
  · exact Or.inl (if_neg q)
/-- what is reached from s -/
abbrev c_R (w h : Int) (sl fo ba ca : Int → Int) (a s : Int) : Int → Int := c_n (g_fr sl) (g_to w sl) (c_sp fo ba ca) a (g_el w h sl) 35 (c_0 s)
theorem c_R_b {w h : Int} {sl fo ba ca : Int → Int} {a s : Int} : c_b (c_R w h sl fo ba ca a s) := c_n_b (c_0_b s)
theorem c_F36 {w h : Int} {sl : Int → Int} (hg : g_sd w h) : ∀ e ∈ g_el w h sl, 0 ≤ g_fr sl e ∧ g_fr sl e < 36 ∧ 0 ≤ g_to w sl e ∧ g_to w sl e < 36 := fun _ he => g_Eb36 hg ((g_el_mem hg).1 he)
theorem p_31_27 {w h : Int} {sl fo ba ca : Int → Int} {a x3 : Int} {M0 : jm_Mem} {Q : jm_Q} (hg : g_ok w h sl) (hT : g_tb w h sl M0) (hfo : M0 4 = fo) (hba : M0 5 = ba) (hbo : g_bo fo ba) (hca : ∀ e, g_E w h sl e → M0 43 e = ca e) (hcb : c_cb w h sl ca) (ha : M0 62 2 = a) : ∀ (n : Nat) (r : Int → Int) (M : jm_Mem), n ≤ 35 → c_mu r ≤ n → jm_fr [63] M0 M → c_rp r (M 63) → c_b r → (∀ M', c_rp (c_n (g_fr sl) (g_to w sl) (c_sp fo ba ca) a (g_el w h sl) n r) (M' 63) → jm_fr [63] M0 M' → Q none M') → jm_run 31 (27, [some (jm_R 62), some (jm_R 1), some (jm_R 42), some (jm_I x3), some (jm_I 1), some (jm_I (35 - (n : Int)))], [], M) Q := by
  intro n
  induction n with
  | zero =>
    intro r M hn hm hf hr hb hQ
    refine sg_31_27 ⟨fun _ => ⟨fun q => by omega, fun _ => ?_⟩, fun q => by omega⟩
    have hfl : c_L w h sl fo ba ca a (g_el w h sl) r = false := by
      cases hk : c_L w h sl fo ba ca a (g_el w h sl) r with
      | false => rfl
      | true => have := c_mu_lt hb (c_F36 hg.1) hk; omega
    refine p_32 (fo := fo) (ba := ba) (ca := ca) (a := a) hg (g_tb_fr hf (by decide) hT) (by rw [hf 4 (by decide)]; exact hfo) (by rw [hf 5 (by decide)]; exact hba) hbo (fun e he => by rw [hf 43 (by decide)]; exact hca e he) hcb (by rw [hf 62 (by decide)]; exact ha) hr hb ?_
    intro M1 hr1 hf1
    rw [hfl, jm_Bf (by simp)]
    refine ⟨_, rfl, ⟨by omega, by omega⟩, ?_⟩
    have e1 : c_K w h sl fo ba ca a (g_el w h sl) r = r := c_r_z hfl
    rw [e1] at hr1
    refine sg_31_27 ⟨fun _ => ⟨fun _ => ?_, fun q => absurd rfl q⟩, fun _ => ?_⟩
    · exact hQ M1 hr1 (jm_fr_tr hf hf1)
    · exact hQ M1 hr1 (jm_fr_tr hf hf1)
  | succ n ih =>
    intro r M hn hm hf hr hb hQ
    refine sg_31_27 ⟨fun _ => ⟨fun q => by omega, fun _ => ?_⟩, fun q => by omega⟩
    refine p_32 (fo := fo) (ba := ba) (ca := ca) (a := a) hg (g_tb_fr hf (by decide) hT) (by rw [hf 4 (by decide)]; exact hfo) (by rw [hf 5 (by decide)]; exact hba) hbo (fun e he => by rw [hf 43 (by decide)]; exact hca e he) hcb (by rw [hf 62 (by decide)]; exact ha) hr hb ?_
    intro M1 hr1 hf1
    refine ⟨_, rfl, ⟨by omega, by omega⟩, ?_⟩
    cases hk : c_L w h sl fo ba ca a (g_el w h sl) r with
    | false =>
      rw [jm_Bf (by simp)]
      have e1 : c_K w h sl fo ba ca a (g_el w h sl) r = r := c_r_z hk
      rw [e1] at hr1
      rw [c_n_f hk] at hQ
      refine sg_31_27 ⟨fun _ => ⟨fun _ => ?_, fun q => absurd rfl q⟩, fun _ => ?_⟩
      · exact hQ M1 hr1 (jm_fr_tr hf hf1)
      · exact hQ M1 hr1 (jm_fr_tr hf hf1)
    | true =>
      rw [jm_Bt rfl]
      rw [c_n_t hk] at hQ
      have hlt : c_mu (c_K w h sl fo ba ca a (g_el w h sl) r) < c_mu r := c_mu_lt hb (c_F36 hg.1) hk
      have := ih _ M1 (by omega) (by omega) (jm_fr_tr hf hf1) hr1 (c_r_b hb) hQ
      rw [show (35 : Int) - ((n + 1 : Nat) : Int) + 1 = 35 - (n : Int) by omega]
      exact this
/-- which end of the ways counts -/
abbrev c_s (side s t : Int) : Int := if side = 0 then s else t
theorem p_31 {w h : Int} {sl fo ba ca : Int → Int} {side s t : Int} {M : jm_Mem} {Q : jm_Q} (hg : g_ok w h sl) (hT : g_tb w h sl M) (hfo : M 4 = fo) (hba : M 5 = ba) (hbo : g_bo fo ba) (hca : ∀ e, g_E w h sl e → M 43 e = ca e) (hcb : c_cb w h sl ca) (hs : M 42 5 = s) (ht : M 42 6 = t) (s0 : 0 ≤ s) (s1 : s < 36) (t0 : 0 ≤ t) (t1 : t < 36) (hQ : ∀ M', c_rp (c_R w h sl fo ba ca (jm_B (side = 0)) (c_s side s t)) (M' 63) → M' 62 2 = jm_B (side = 0) → jm_fr [62, 63] M M' → Q none M') : jm_cl 31 [jm_R 62, jm_R 1, jm_R 42, jm_I side] M Q := by
  refine sc_31 (jm_fill (n := 36) (l := []) rfl rfl (by decide) ⟨rfl, ?_⟩)
  have go : ∀ (b x : Int), b = jm_B (side = 0) → x = c_s side s t → jm_run 31 (27, [some (jm_R 62), some (jm_R 1), some (jm_R 42), some (jm_I side), some (jm_I 1), some (jm_I 0)], [], jm_st (jm_st (jm_sr M 63 (jm_fl (36 : Nat) 0 (M 63))) 62 2 b) 63 x 1) Q := by
    intro b x hb hx
    have x01 : 0 ≤ x ∧ x < 36 := by
      rw [hx]; unfold c_s
      by_cases q : side = 0
      · rw [if_pos q]; exact ⟨s0, s1⟩
      · rw [if_neg q]; exact ⟨t0, t1⟩
    have hf : jm_fr [62, 63] M (jm_st (jm_st (jm_sr M 63 (jm_fl (36 : Nat) 0 (M 63))) 62 2 b) 63 x 1) := jm_fr_tr (jm_fr_tr (jm_fr_sr (by decide)) (jm_fr_st (by decide))) (jm_fr_st (by decide))
    have m62 : (jm_st (jm_st (jm_sr M 63 (jm_fl (36 : Nat) 0 (M 63))) 62 2 b) 63 x 1) 62 2 = jm_B (side = 0) := by
      simp only [jm_st_e, jm_sr_e, Nat.reduceEqDiff, reduceIte]
      rw [jm_up_s]; exact hb
    refine p_31_27 (a := jm_B (side = 0)) hg (g_tb_fr hf (by decide) hT) (by rw [hf 4 (by decide)]; exact hfo) (by rw [hf 5 (by decide)]; exact hba) hbo (fun e he => by rw [hf 43 (by decide)]; exact hca e he) hcb m62 35 (c_0 x) _ (by omega) (c_mu_0 x01.1 x01.2) (jm_fr_rfl _ _) ?_ (c_0_b x) ?_
    · intro v v0 v1
      simp only [jm_st_e, jm_sr_e, Nat.reduceEqDiff, reduceIte]
      rw [jm_up_e]
      show (if v = x then (1 : Int) else _) = if v = x then 1 else 0
      by_cases q : v = x
      · rw [if_pos q, if_pos q]
      · rw [if_neg q, if_neg q]
        exact if_pos ⟨v0, v1⟩
    · intro M' h1 h2
      rw [hx] at h1
      exact hQ M' h1 (by rw [h2 62 (by decide)]; exact m62) (jm_fr_tr hf (jm_fr_mo h2 (by decide)))
  refine ⟨fun q => ⟨by omega, by omega, fun p => ?_, fun p => ?_⟩, fun q => ⟨by omega, by omega, fun p => ?_, fun p => ?_⟩⟩
  · exfalso
    simp only [jm_st_e, jm_sr_e, Nat.reduceEqDiff, reduceIte] at p
    rw [jm_up_s] at p
    omega
  · simp only [jm_st_e, jm_sr_e, Nat.reduceEqDiff, reduceIte]
    rw [hs]
    refine ⟨s0, s1, ?_⟩
    have := go 1 s (jm_Bt q).symm (if_pos q).symm
    exact this
  · simp only [jm_st_e, jm_sr_e, Nat.reduceEqDiff, reduceIte]
    rw [ht]
    refine ⟨t0, t1, ?_⟩
    have := go 0 t (jm_Bf q).symm (if_neg q).symm
    exact this
  · exfalso
    simp only [jm_st_e, jm_sr_e, Nat.reduceEqDiff, reduceIte] at p
    rw [jm_up_s] at p
    omega
