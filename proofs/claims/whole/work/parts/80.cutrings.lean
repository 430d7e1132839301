/-! CUTS: their rings -/
theorem c_pig {ρ : Int → Int → Prop} : ∀ (l l' : List Int), l.Nodup → (∀ a ∈ l, ∃ c, c ∈ l' ∧ ρ a c) → (∀ a b c, a ∈ l → b ∈ l → ρ a c → ρ b c → a = b) → l.length ≤ l'.length
  | [], _, _, _, _ => Nat.zero_le _
  | a :: l, l', hn, h1, h2 => by
    obtain ⟨c, hc, hr⟩ := h1 a List.mem_cons_self
    rw [List.nodup_cons] at hn
    have := c_pig (ρ := ρ) l (l'.erase c) hn.2 (by
      intro b hb
      obtain ⟨d, hd, hr'⟩ := h1 b (List.mem_cons_of_mem _ hb)
      refine ⟨d, ?_, hr'⟩
      have hne : d ≠ c := by
        intro q
        rw [q] at hr'
        have := h2 a b c List.mem_cons_self (List.mem_cons_of_mem _ hb) hr hr'
        exact hn.1 (by rw [this]; exact hb)
      exact (List.mem_erase_of_ne hne).2 hd) (fun x y z hx hy => h2 x y z (List.mem_cons_of_mem _ hx) (List.mem_cons_of_mem _ hy))
    rw [List.length_erase_of_mem hc] at this
    have hp : 0 < l'.length := List.length_pos_of_mem hc
    rw [List.length_cons]
    omega
theorem c_one {P P' : Int → Prop} [DecidablePred P] [DecidablePred P'] {N x : Int} (h : ∀ v, v ≠ x → (P v ↔ P' v)) (h0 : ¬ P x) (h1 : P' x) : ∀ e, e ≤ N → ((x < e → (g_ls P' N e).length = (g_ls P N e).length) ∧ (e ≤ x → x < N → (g_ls P' N e).length = (g_ls P N e).length + 1)) := by
  refine jm_dn ?_
  intro e he ih
  by_cases q : e < N
  · obtain ⟨i1, i2⟩ := ih q
    by_cases z : e = x
    · rw [z] at q i1 ⊢
      rw [g_ls_n q h0, g_ls_y q h1, List.length_cons, i1 (by omega)]
      exact ⟨fun p => by omega, fun _ _ => rfl⟩
    · have hz := h e z
      by_cases p : P e
      · rw [g_ls_y q p, g_ls_y q (hz.1 p), List.length_cons, List.length_cons]
        exact ⟨fun a => by rw [i1 (by omega)], fun a b => by rw [i2 (by omega) b]⟩
      · rw [g_ls_n q p, g_ls_n q (fun a => p (hz.2 a))]
        exact ⟨fun a => i1 (by omega), fun a b => i2 (by omega) b⟩
  · rw [g_ls_z (P := P) (by omega), g_ls_z (P := P') (by omega)]
    exact ⟨fun _ => rfl, fun a b => by omega⟩
abbrev c_ef (A B : Int → Int) (e f : Int) : Prop := A e = f ∨ B e = f
abbrev c_bs (A B : Int → Int) (e g : Int) : Prop := c_ef A B g (A e) ∨ c_ef A B g (B e)
def c_S (C : Int → Prop) (A B S : Int → Int) : Prop := ∀ a b, C a → C b → c_bs A B a b → S a = S b
theorem c_S_f {C : Int → Prop} {A B S : Int → Int} (h : c_S C A B S) {a b f : Int} (ha : C a) (hb : C b) (h1 : c_ef A B a f) (h2 : c_ef A B b f) : S a = S b := by
  refine h a b ha hb ?_
  rcases h1 with q | q
  · left; rw [q]; exact h2
  · right; rw [q]; exact h2
def c_RI (C : Int → Prop) (A B : Int → Int) (D : Int → Prop) (R : Int → Int) : Prop :=
  (∀ f, R f ≠ -1 → 0 ≤ f ∧ f < 73 ∧ ∃ e, C e ∧ c_ef A B e f) ∧ (∀ f, R f ≠ -1 → R (R f) = R f) ∧ (∀ e, D e → R (A e) = R (B e) ∧ R (A e) ≠ -1) ∧ (∀ S, c_S C A B S → ∀ f g e e', R f = R g → R f ≠ -1 → C e → C e' → c_ef A B e f → c_ef A B e' g → S e = S e')
def c_fx (R : Int → Int) : Int := ((g_ls (fun f => R f = f) 73 0).length : Int)
theorem c_touch {C D : Int → Prop} {A B R : Int → Int} (h : c_RI C A B D R) {e f : Int} (he : C e) (hf : c_ef A B e f) (f0 : 0 ≤ f) (f1 : f < 73) (hR : R f = -1) : c_RI C A B D (jm_up R f f) ∧ c_fx (jm_up R f f) = c_fx R + 1 := by
  obtain ⟨i1, i2, i3, i4⟩ := h
  have hnf : ∀ g, R g ≠ -1 → g ≠ f := fun g hg q => hg (by rw [q]; exact hR)
  refine ⟨⟨?_, ?_, ?_, ?_⟩, ?_⟩
  · intro g hg
    by_cases q : g = f
    · rw [q]; exact ⟨f0, f1, e, he, hf⟩
    · rw [jm_up_o q] at hg; exact i1 g hg
  · intro g hg
    by_cases q : g = f
    · rw [q, jm_up_s, jm_up_s]
    · rw [jm_up_o q] at hg ⊢
      have h2 := i2 g hg
      rw [jm_up_o (hnf (R g) (by rw [h2]; exact hg))]
      exact h2
  · intro x hx
    obtain ⟨a, b⟩ := i3 x hx
    rw [jm_up_o (hnf _ b), jm_up_o (hnf _ (by rw [← a]; exact b))]
    exact ⟨a, b⟩
  · intro S hS g g' a b hgg hne ha hb hag hbg
    have key : ∀ u, u ≠ f → jm_up R f f u ≠ -1 → jm_up R f f u ≠ f := by
      intro u hu hu1 hu2
      rw [jm_up_o hu] at hu1 hu2
      have := i2 u hu1
      rw [hu2, hR] at this
      omega
    by_cases q : g = f
    · by_cases q' : g' = f
      · rw [q] at hag; rw [q'] at hbg
        exact c_S_f hS ha hb hag hbg
      · exact absurd (by rw [← hgg, q, jm_up_s]) (key g' q' (by rw [← hgg]; exact hne))
    · by_cases q' : g' = f
      · exact absurd (by rw [hgg, q', jm_up_s]) (key g q hne)
      · rw [jm_up_o q, jm_up_o q'] at hgg
        rw [jm_up_o q] at hne
        exact i4 S hS g g' a b hgg hne ha hb hag hbg
  · have := (c_one (P := fun g => R g = g) (P' := fun g => jm_up R f f g = g) (N := 73) (x := f) (fun v hv => by rw [jm_up_o hv]) (by rw [hR]; omega) (by rw [jm_up_s]) 0 (by omega)).2 f0 f1
    unfold c_fx
    omega
theorem c_join {C D : Int → Prop} {A B R : Int → Int} (h : c_RI C A B D R) {e : Int} (he : C e) (h1 : R (A e) ≠ -1) (h2 : R (B e) ≠ -1) (hne : R (A e) ≠ R (B e)) : c_RI C A B (fun x => D x ∨ x = e) (fun k => if R k = R (B e) then R (A e) else R k) ∧ c_fx (fun k => if R k = R (B e) then R (A e) else R k) = c_fx R - 1 := by
  obtain ⟨i1, i2, i3, i4⟩ := h
  have ha := i2 _ h1
  have hb := i2 _ h2
  have nz : ∀ k, (if R k = R (B e) then R (A e) else R k) ≠ -1 → R k ≠ -1 := by
    intro k hk
    by_cases q : R k = R (B e)
    · rw [q]; exact h2
    · rwa [if_neg q] at hk
  refine ⟨⟨?_, ?_, ?_, ?_⟩, ?_⟩
  · intro f hf
    exact i1 f (nz f hf)
  · intro f hf
    have hf := nz f hf
    dsimp only
    by_cases q : R f = R (B e)
    · rw [if_pos q, ha, if_neg hne]
    · rw [if_neg q, i2 f hf, if_neg q]
  · intro x hx
    dsimp only
    rcases hx with hx | hx
    · obtain ⟨a, b⟩ := i3 x hx
      rw [← a]
      refine ⟨rfl, ?_⟩
      by_cases q : R (A x) = R (B e)
      · rw [if_pos q]; exact h1
      · rw [if_neg q]; exact b
    · rw [hx, if_neg hne, if_pos rfl]
      exact ⟨rfl, h1⟩
  · intro S hS f g a b hfg hn hca hcb haf hbg
    have hn := nz f hn
    dsimp only at hfg
    by_cases q : R f = R (B e)
    · by_cases q' : R g = R (B e)
      · exact i4 S hS f g a b (by rw [q, q']) hn hca hcb haf hbg
      · rw [if_pos q, if_neg q'] at hfg
        have e1 := i4 S hS f (B e) a e q hn hca he haf (Or.inr rfl)
        have e2 := i4 S hS (A e) g e b hfg h1 he hcb (Or.inl rfl) hbg
        rw [e1, e2]
    · by_cases q' : R g = R (B e)
      · rw [if_neg q, if_pos q'] at hfg
        have e1 := i4 S hS f (A e) a e hfg hn hca he haf (Or.inl rfl)
        have e2 := i4 S hS (B e) g e b q'.symm h2 he hcb (Or.inr rfl) hbg
        rw [e1, e2]
      · rw [if_neg q, if_neg q'] at hfg
        exact i4 S hS f g a b hfg hn hca hcb haf hbg
  · obtain ⟨r0, r1, -⟩ := i1 (R (B e)) (by rw [hb]; exact h2)
    have := (c_one (P := fun k => (if R k = R (B e) then R (A e) else R k) = k) (P' := fun k => R k = k) (N := 73) (x := R (B e)) (by
      intro v hv
      by_cases q : R v = R (B e)
      · rw [if_pos q]
        refine ⟨fun z => ?_, fun z => ?_⟩
        · exfalso; rw [← z, ha] at q; exact hne q
        · exfalso; exact hv (by rw [← q]; exact z.symm)
      · rw [if_neg q]) (by rw [if_pos hb]; exact hne) hb 0 (by omega)).2 r0 r1
    show ((g_ls (fun k => (if R k = R (B e) then R (A e) else R k) = k) 73 0).length : Int) = ((g_ls (fun f => R f = f) 73 0).length : Int) - 1
    omega
theorem c_eqd {C D : Int → Prop} {A B R : Int → Int} (h : c_RI C A B D R) {e : Int} (h1 : R (A e) ≠ -1) (hne : R (A e) = R (B e)) : c_RI C A B (fun x => D x ∨ x = e) R := by
  obtain ⟨i1, i2, i3, i4⟩ := h
  refine ⟨i1, i2, ?_, i4⟩
  intro x hx
  rcases hx with hx | hx
  · exact i3 x hx
  · rw [hx]; exact ⟨hne, h1⟩
theorem c_RI_0 {C : Int → Prop} {A B : Int → Int} : c_RI C A B (fun _ => False) (fun _ => -1) ∧ c_fx (fun _ => -1) = 0 := by
  refine ⟨⟨fun f h => absurd rfl h, fun f h => absurd rfl h, fun e h => h.elim, fun S _ f g e e' _ h => absurd rfl h⟩, ?_⟩
  unfold c_fx
  have : ∀ e : Int, e ≤ 73 → 0 ≤ e → g_ls (fun f => (-1 : Int) = f) 73 e = [] := by
    refine jm_dn ?_
    intro e he ih e0
    by_cases q : e < 73
    · rw [g_ls_n (P := fun f => (-1 : Int) = f) q (by omega)]; exact ih q (by omega)
    · exact g_ls_z (by omega)
  rw [this 0 (by omega) (by omega)]
  rfl
def c_PI (C : Int → Prop) (A B : Int → Int) (D : Int → Int → Prop) (P : Int → Int) : Prop :=
  (∀ e, C e → C (P e) ∧ P (P e) = P e) ∧ (∀ e g, D e g → P e = P g) ∧ (∀ S, c_S C A B S → ∀ a b, C a → C b → P a = P b → S a = S b)
theorem c_PI_0 {C : Int → Prop} {A B : Int → Int} : c_PI C A B (fun _ _ => False) (fun e => e) :=
  ⟨fun e he => ⟨he, rfl⟩, fun _ _ h => h.elim, fun S _ a b _ _ h => by rw [show a = b from h]⟩
theorem c_PI_m {C : Int → Prop} {A B : Int → Int} {D D' : Int → Int → Prop} {P : Int → Int} (h : c_PI C A B D P) (hD : ∀ a b, D' a b → D a b ∨ P a = P b) : c_PI C A B D' P :=
  ⟨h.1, fun e g hd => (hD e g hd).elim (h.2.1 e g) id, h.2.2⟩
theorem c_merge {C : Int → Prop} {A B : Int → Int} {D D' : Int → Int → Prop} {P : Int → Int} (h : c_PI C A B D P) {e g : Int} (he : C e) (hg : C g) (hb : c_bs A B e g) (hne : P e ≠ P g) (hD : ∀ a b, D' a b → D a b ∨ (a = e ∧ b = g)) : c_PI C A B D' (fun k => if P k = P e then P g else P k) := by
  obtain ⟨i1, i2, i3⟩ := h
  refine ⟨?_, ?_, ?_⟩
  · intro k hk
    dsimp only
    obtain ⟨g1, g2⟩ := i1 g hg
    obtain ⟨k1, k2⟩ := i1 k hk
    by_cases q : P k = P e
    · rw [if_pos q, g2, if_neg (Ne.symm hne)]; exact ⟨g1, rfl⟩
    · rw [if_neg q, k2, if_neg q]; exact ⟨k1, rfl⟩
  · intro a b hd
    dsimp only
    rcases hD a b hd with q | ⟨q1, q2⟩
    · rw [i2 a b q]
    · rw [q1, q2, if_pos rfl, if_neg (Ne.symm hne)]
  · intro S hS a b ha hb' hab
    dsimp only at hab
    have heg : S e = S g := hS e g he hg hb
    by_cases q : P a = P e
    · by_cases q' : P b = P e
      · exact i3 S hS a b ha hb' (by rw [q, q'])
      · rw [if_pos q, if_neg q'] at hab
        rw [i3 S hS a e ha he q, heg, i3 S hS g b hg hb' hab]
    · by_cases q' : P b = P e
      · rw [if_neg q, if_pos q'] at hab
        rw [i3 S hS a g ha hg hab, ← heg, i3 S hS b e hb' he q']
      · rw [if_neg q, if_neg q'] at hab
        exact i3 S hS a b ha hb' hab
theorem c_same {C : Int → Prop} [DecidablePred C] {A B R P : Int → Int} (hR : c_RI C A B C R) (hP : c_PI C A B (fun e g => C e ∧ C g ∧ c_bs A B e g) P) (hC : ∀ e, C e → 0 ≤ e ∧ e < 108) : c_fx R = ((g_ls (fun e => C e ∧ P e = e) 108 0).length : Int) := by
  obtain ⟨i1, i2, i3, i4⟩ := hR
  obtain ⟨j1, j2, j3⟩ := hP
  have hSR : c_S C A B (fun e => R (A e)) := by
    intro a b ha hb h
    have ra := (i3 a ha).1
    have rb := (i3 b hb).1
    show R (A a) = R (A b)
    rcases h with (q | q) | (q | q)
    · rw [q]
    · rw [rb, q]
    · rw [q, ra]
    · rw [rb, q, ra]
  have hat : ∀ e f, C e → c_ef A B e f → R (A e) = R f := by
    intro e f he h
    rcases h with q | q
    · rw [q]
    · rw [(i3 e he).1, q]
  have hSP : c_S C A B P := fun a b ha hb h => j2 a b ⟨ha, hb, h⟩
  have l1 : (g_ls (fun f => R f = f) 73 0).length ≤ (g_ls (fun e => C e ∧ P e = e) 108 0).length := by
    refine c_pig (ρ := fun f c => ∃ e, C e ∧ c_ef A B e f ∧ P e = c) _ _ (g_ls_nd 0 (by omega)) ?_ ?_
    · intro f hf
      obtain ⟨f0, f1, hf⟩ := (g_ls_mem (P := fun f => R f = f) 0 (by omega)).1 hf
      obtain ⟨-, -, e, he, hef⟩ := i1 f (by omega)
      obtain ⟨p1, p2⟩ := j1 e he
      obtain ⟨c1, c2⟩ := hC _ p1
      exact ⟨P e, (g_ls_mem (P := fun e => C e ∧ P e = e) 0 (by omega)).2 ⟨c1, c2, p1, p2⟩, e, he, hef, rfl⟩
    · intro f f' c hf hf' h1 h2
      obtain ⟨f0, f1, hf⟩ := (g_ls_mem (P := fun f => R f = f) 0 (by omega)).1 hf
      obtain ⟨f0', f1', hf'⟩ := (g_ls_mem (P := fun f => R f = f) 0 (by omega)).1 hf'
      obtain ⟨e, he, hef, hp⟩ := h1
      obtain ⟨e', he', hef', hp'⟩ := h2
      have := j3 _ hSR e e' he he' (by rw [hp, hp'])
      rw [hat e f he hef, hat e' f' he' hef', hf, hf'] at this
      exact this
  have l2 : (g_ls (fun e => C e ∧ P e = e) 108 0).length ≤ (g_ls (fun f => R f = f) 73 0).length := by
    refine c_pig (ρ := fun e c => R (A e) = c) _ _ (g_ls_nd 0 (by omega)) ?_ ?_
    · intro e he
      obtain ⟨-, -, he, -⟩ := (g_ls_mem (P := fun e => C e ∧ P e = e) 0 (by omega)).1 he
      obtain ⟨-, hn⟩ := i3 e he
      have h2 := i2 _ hn
      obtain ⟨r0, r1, -⟩ := i1 (R (A e)) (by rw [h2]; exact hn)
      exact ⟨R (A e), (g_ls_mem (P := fun f => R f = f) 0 (by omega)).2 ⟨r0, r1, h2⟩, rfl⟩
    · intro e g c he hg h1 h2
      obtain ⟨-, -, he, hpe⟩ := (g_ls_mem (P := fun e => C e ∧ P e = e) 0 (by omega)).1 he
      obtain ⟨-, -, hg, hpg⟩ := (g_ls_mem (P := fun e => C e ∧ P e = e) 0 (by omega)).1 hg
      have := i4 P hSP (A e) (A g) e g (by rw [h1, h2]) (i3 e he).2 he hg (Or.inl rfl) (Or.inl rfl)
      rw [hpe, hpg] at this
      exact this
  unfold c_fx
  omega
def c_q (R f : Int → Int) : Prop := ∀ v, 0 ≤ v → v < 73 → f v = R v
theorem p_38 {C D : Int → Prop} {A B R : Int → Int} {e f : Int} {M : jm_Mem} {Q : jm_Q} (h : c_RI C A B D R) (hq : c_q R (M 64)) (he : C e) (hf : c_ef A B e f) (f0 : 0 ≤ f) (f1 : f < 73) (hQ : ∀ M' R' b, c_RI C A B D R' → c_q R' (M' 64) → c_fx R' = c_fx R + b → 0 ≤ b → b ≤ 1 → R' f ≠ -1 → (∀ g, R g ≠ -1 → R' g ≠ -1) → jm_fr [64] M M' → Q (some (jm_I b)) M') : jm_cl 38 [jm_R 62, jm_I f] M Q := by
  refine sc_38 ⟨f0, f1, fun a => ⟨f0, f1, ?_⟩, fun a => ?_⟩
  · rw [hq f f0 f1] at a
    obtain ⟨t1, t2⟩ := c_touch h he hf f0 f1 a
    refine hQ _ _ 1 t1 ?_ t2 (by omega) (by omega) (by rw [jm_up_s]; omega) ?_ (jm_fr_st (by decide))
    · intro v v0 v1
      simp only [jm_st_e, reduceIte]
      rw [jm_up_e, jm_up_e, hq v v0 v1]
    · intro g hg
      rw [jm_up_e]
      by_cases q : g = f
      · rw [if_pos q]; omega
      · rw [if_neg q]; exact hg
  · rw [hq f f0 f1] at a
    exact hQ M R 0 h hq (by omega) (by omega) (by omega) a (fun _ h => h) (jm_fr_rfl _ _)
theorem p_39 {C D : Int → Prop} {A B R : Int → Int} {e : Int} {M : jm_Mem} {Q : jm_Q} (h : c_RI C A B D R) (hq : c_q R (M 64)) (he : C e) (a0 : 0 ≤ A e) (a1 : A e < 73) (b0 : 0 ≤ B e) (b1 : B e < 73) (h1 : R (A e) ≠ -1) (h2 : R (B e) ≠ -1) (hQ : ∀ M' R' b, c_RI C A B (fun x => D x ∨ x = e) R' → c_q R' (M' 64) → c_fx R' = c_fx R - b → 0 ≤ b → b ≤ 1 → jm_fr [64] M M' → Q (some (jm_I b)) M') : jm_cl 39 [jm_R 62, jm_I (A e), jm_I (B e)] M Q := by
  refine sc_39 ⟨a0, a1, b0, b1, fun q => ?_, fun q => ?_⟩
  · rw [hq _ a0 a1, hq _ b0 b1] at q
    exact hQ M R 0 (c_eqd h h1 q) hq (by omega) (by omega) (by omega) (jm_fr_rfl _ _)
  · rw [hq _ a0 a1, hq _ b0 b1] at q ⊢
    obtain ⟨t1, t2⟩ := c_join h he h1 h2 q
    have L : ∀ k, k ≤ 73 → 0 ≤ k → ∀ M1, jm_fr [64] M M1 → (∀ v, 0 ≤ v → v < 73 → M1 64 v = if v < k then (if R v = R (B e) then R (A e) else R v) else R v) → jm_run 39 (17, [some (jm_R 62), some (jm_I (A e)), some (jm_I (B e)), some (jm_I (R (A e))), some (jm_I (R (B e))), some (jm_I k)], [], M1) Q := by
      refine jm_dn ?_
      intro k hk ih k0 M1 hf hv
      by_cases z : k < 73
      · have ih := ih z (by omega)
        have hvk := hv k k0 z
        rw [if_neg (by omega)] at hvk
        refine sg_39_17 ⟨fun _ => ⟨k0, z, fun y => ⟨k0, z, ⟨by omega, by omega⟩, ih _ (jm_fr_tr hf (jm_fr_st (by decide))) ?_⟩, fun y => ⟨⟨by omega, by omega⟩, ih M1 hf ?_⟩⟩, fun y => absurd z y⟩
        · intro v v0 v1
          simp only [jm_st_e, reduceIte]
          rw [hvk] at y
          by_cases x : v = k
          · rw [x, jm_up_s, if_pos (by omega), if_pos y]
          · rw [jm_up_o x, hv v v0 v1]
            by_cases u : v < k
            · rw [if_pos u, if_pos (c := v < k + 1) (by omega)]
            · rw [if_neg u, if_neg (c := v < k + 1) (by omega)]
        · intro v v0 v1
          rw [hvk] at y
          rw [hv v v0 v1]
          by_cases x : v = k
          · rw [x, if_neg (c := k < k) (by omega), if_pos (c := k < k + 1) (by omega), if_neg y]
          · by_cases u : v < k
            · rw [if_pos u, if_pos (c := v < k + 1) (by omega)]
            · rw [if_neg u, if_neg (c := v < k + 1) (by omega)]
      · refine sg_39_17 ⟨fun y => absurd y z, fun _ => ?_⟩
        refine hQ M1 _ 1 t1 ?_ t2 (by omega) (by omega) hf
        intro v v0 v1
        rw [hv v v0 v1, if_pos (by omega)]
    refine L 0 (by omega) (by omega) M (jm_fr_rfl _ _) ?_
    intro v v0 v1
    rw [if_neg (by omega)]
    exact hq v v0 v1
theorem p_37 {w h : Int} {sl i : Int → Int} {M : jm_Mem} {Q : jm_Q} (hg : g_ok w h sl) (hT : g_tb w h sl M) (hi : c_T i M) (hQ : ∀ M' R, c_RI (c_C w h sl i) (g_lf w h sl) (g_rt w h sl) (c_C w h sl i) R → jm_fr [64] M M' → Q (some (jm_I (c_fx R))) M') : jm_cl 37 [jm_R 62, jm_R 1] M Q := by
  refine sc_37 (jm_fill (n := 73) (l := []) rfl rfl (by decide) ⟨rfl, ?_⟩)
  have L : ∀ (rest pre : List Int), pre ++ rest = g_el w h sl → ∀ (o4 : Option jm_V) (R : Int → Int) (M1 : jm_Mem), jm_fr [64] M M1 → c_q R (M1 64) → c_RI (c_C w h sl i) (g_lf w h sl) (g_rt w h sl) (fun e => c_C w h sl i e ∧ e ∈ pre) R → jm_run 37 (8, [some (jm_R 62), some (jm_R 1), some (jm_I (c_fx R)), some (jm_I (pre.length : Int)), o4], [], M1) Q := by
    intro rest
    induction rest with
    | nil =>
      intro pre hp o4 R M1 hf hq hR
      have hT1 := g_tb_fr hf (by decide) hT
      refine sg_37_8 ⟨fun a => absurd a (tb_nil hT1 hp), fun _ => ?_⟩
      refine hQ M1 R ⟨hR.1, hR.2.1, fun e he => hR.2.2.1 e ⟨he, ?_⟩, hR.2.2.2⟩ hf
      rw [List.append_nil] at hp
      rw [hp]; exact (g_el_mem hg.1).2 he.1
    | cons e rest ih =>
      intro pre hp o4 R M1 hf hq hR
      have hT1 := g_tb_fr hf (by decide) hT
      obtain ⟨t1', t2, t3, t4, t5, t6, t7⟩ := tb_cons hg.1 hT1 hp
      obtain ⟨b1, b2, -, -⟩ := g_Eb hg.1 t3
      obtain ⟨-, l0, l1⟩ := g_lfF hg t3
      obtain ⟨-, r0, r1⟩ := g_rtF hg t3
      have ih := fun o4 => ih (pre ++ [e]) t6 o4
      rw [t7] at ih
      have hfx : ∀ R', 0 ≤ c_fx R' ∧ c_fx R' ≤ 73 := by
        intro R'
        have := g_ls_len (P := fun f => R' f = f) (N := 73) 0 (by omega)
        unfold c_fx
        omega
      refine sg_37_8 ⟨fun _ => ⟨t4, t5, ?_⟩, fun q => absurd t1' q⟩
      rw [t2, e_33 hg.1 hT1 (c_T_fr hf (by decide) (by decide) hi) t3]
      refine ⟨_, rfl, fun z => ⟨⟨by omega, by omega⟩, ih _ R M1 hf hq ?_⟩, fun z => ⟨b1, b2, ?_⟩⟩
      · refine ⟨hR.1, hR.2.1, fun x hx => hR.2.2.1 x ⟨hx.1, ?_⟩, hR.2.2.2⟩
        rcases List.mem_append.1 hx.2 with q | q
        · exact q
        · exfalso
          rw [List.mem_singleton] at q
          exact jm_B0.1 z (by rw [← q]; exact hx.1.2)
      · have hC : c_C w h sl i e := ⟨t3, jm_Bn.1 z⟩
        obtain ⟨-, -, d3, d4⟩ := t_E hg.1 hT1 t3
        rw [d3]
        refine p_38 hR hq hC (Or.inl rfl) l0 (by omega) ?_
        intro M2 R2 x2 hR2 hq2 hx2 x20 x21 hn2 hm2 hf2
        refine ⟨_, rfl, b1, b2, ?_⟩
        obtain ⟨-, -, -, d4⟩ := t_E hg.1 (g_tb_fr hf2 (by decide) hT1) t3
        rw [d4]
        refine p_38 hR2 hq2 hC (Or.inr rfl) r0 (by omega) ?_
        intro M3 R3 x3 hR3 hq3 hx3 x30 x31 hn3 hm3 hf3
        have a1 := hfx R
        have a2 := hfx R2
        have a3 := hfx R3
        refine ⟨_, rfl, ⟨by omega, by omega⟩, ⟨by omega, by omega⟩, b1, b2, b1, b2, ?_⟩
        obtain ⟨-, -, d3, d4⟩ := t_E hg.1 (g_tb_fr hf3 (by decide) (g_tb_fr hf2 (by decide) hT1)) t3
        rw [d3, d4]
        refine p_39 hR3 hq3 hC l0 (by omega) r0 (by omega) (hm3 _ hn2) hn3 ?_
        intro M4 R4 x4 hR4 hq4 hx4 x40 x41 hf4
        refine ⟨_, rfl, ⟨by omega, by omega⟩, ⟨by omega, by omega⟩, ?_⟩
        rw [show c_fx R + (x2 + x3) - x4 = c_fx R4 by omega]
        refine ih _ R4 M4 (jm_fr_tr hf (jm_fr_tr hf2 (jm_fr_tr hf3 hf4))) hq4 ⟨hR4.1, hR4.2.1, fun x hx => hR4.2.2.1 x ?_, hR4.2.2.2⟩
        rcases List.mem_append.1 hx.2 with q | q
        · exact Or.inl ⟨hx.1, q⟩
        · exact Or.inr (List.mem_singleton.1 q)
  have hz := c_RI_0 (C := c_C w h sl i) (A := g_lf w h sl) (B := g_rt w h sl)
  have := L (g_el w h sl) [] rfl none (fun _ => -1) (jm_sr M 64 (jm_fl (73 : Nat) (-1) (M 64))) (jm_fr_sr (by decide)) (by
    intro v v0 v1
    simp only [jm_sr_e, reduceIte]
    exact if_pos ⟨v0, v1⟩) ⟨hz.1.1, hz.1.2.1, fun x hx => absurd hx.2 List.not_mem_nil, hz.1.2.2.2⟩
  rw [hz.2] at this
  exact this
