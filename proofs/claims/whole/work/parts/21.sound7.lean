theorem jm_wp_lt {n mi : Nat} {as : List jm_V} {M : jm_Mem} {Q : jm_Q} (h : jm_wp n mi (0, jm_pad as (jm_mi mi).2.2.2.1, [], M) Q) : mi < 216 := by
  cases n with
  | zero => exact h.elim
  | succ n =>
    obtain ⟨e, he⟩ := jm_wp_rc h
    rcases Nat.lt_or_ge mi 216 with q | q
    · exact q
    · exfalso
      have he : jm_rc mi 0 = some e := he
      rcases Nat.lt_or_ge mi 217 with q2 | q2
      · have : mi = 216 := by omega
        subst this
        rw [jm_wp_succ (show jm_rc 216 0 = some (.nop, 0, 0) from rfl)] at h
        exact h.1
      · have hn : ∀ {α : Type} (l : List α) (n : Nat), l.length ≤ n → jm_nth l n = none := by
          intro α l
          induction l with
          | nil => intro n _; rfl
          | cons a l ih =>
            intro n hn
            cases n with
            | zero => exact absurd hn (by simp)
            | succ n => exact ih n (by simpa using hn)
        unfold jm_rc at he
        rw [hn jm_cdT mi (by exact q2)] at he
        cases he
theorem jm_okM_sr {M : jm_Mem} {c : Nat} {f : Int → Int} (h : jm_okM M) (hf : ∀ i, jm_in (f i)) : jm_okM (jm_sr M c f) := by
  intro d j hd
  unfold jm_sr
  split
  · exact hf j
  · exact h d j hd
theorem jm_cpy_eq {f g : Int → Int} {sp dp n : Int} (h0 : 0 ≤ sp) (h1 : 0 ≤ dp) (h2 : 0 ≤ n) : (fun j : Nat => Int32.ofInt (jm_cpy f g sp dp n (j : Int))) = va_cpy (fun j : Nat => Int32.ofInt (f (j : Int))) (fun j : Nat => Int32.ofInt (g (j : Int))) sp.toNat dp.toNat n.toNat := by
  funext j
  unfold jm_cpy va_cpy
  by_cases hj : dp ≤ (j : Int) ∧ (j : Int) < dp + n
  · rw [if_pos hj, if_pos (by omega)]
    congr 2
    omega
  · rw [if_neg hj, if_neg (by omega)]
theorem jm_cat_le {ad : Nat → Nat} (r : List jm_V) (h : jm_ft r 8 = true) : ((r.map (jm_val ad)).map fun v => v.category).sum ≤ 8 := jm_ft_sum r 8 h
section JS7
variable {p : Program} {l : Launch} {e : Env} {R : Room} {s : State} {mid : MethodId} {args : Array Value} {below : List Frame} {meth : Method} {c : Code}
variable {dC : Nat → ClassId} {dI : Nat → Nat → Nat} {cA : Nat → ClassId} {ad adV : Nat → Nat} {ids : List Nat} {A : Nat → Prop} {m : Nat} {FQ : State → Prop} {gc gs : Int} {scr : Int → Int}
variable {wc : Nat → List jm_V → jm_Mem → jm_Q → Prop} {w : jm_Cfg → Prop} {Q : jm_Q} {k : Nat} {ls : jm_Ls} {st : List jm_V} {M : jm_Mem} {a : Nat} {z : Int}
/-- a static call of what is no method of the machine: its link and its room -/
theorem jm_ck_bs {idx x : Nat} (hF : jm_F p R s mid args c dC dI cA ad adV ids A m) (hrc : jm_rc m k = some (.invokestatic idx, x, z)) (hx : 216 ≤ x) : decode (jm_b m) (jm_bp m k) = .ok (.invokestatic idx, 3) ∧ jm_bp m (k + 1) = jm_bp m k + 3 ∧ Cond.methodLink (jm_cn (jm_mi m).1) idx (jm_by x) ∈ jm_g ∧ 1 ≤ R.frames ∧ 48 ≤ R.locals := by
  obtain ⟨hd, hp, h2⟩ := jm_nx hrc (by simp) rfl
  have h2 : jm_ck2 m (.invokestatic idx, x, z) = true := h2
  unfold jm_ck2 at h2
  dsimp only at h2
  have hb : Nat.blt x 216 = false := by
    cases hq : Nat.blt x 216 with
    | false => rfl
    | true => exact absurd (show x < 216 from Nat.le_of_ble_eq_true hq) (by omega)
  rw [hb] at h2
  dsimp only at h2
  rw [Bool.and_eq_true, Bool.and_eq_true] at h2
  obtain ⟨q, hq, e1, e2, e3⟩ := jm_any3 h2.1
  have g := jm_mb_ok q hq
  rw [e1, e2, e3] at g
  have b1 := Nat.le_of_ble_eq_true h2.2.1
  have b2 := Nat.le_of_ble_eq_true h2.2.2
  have f1 := hF.2.2.2.2.2.1
  have f2 := hF.2.2.2.2.2.2.1
  exact ⟨hd, hp, jm_in_g _ g rfl, by omega, by omega⟩
theorem js_copy {idx : Nat} {n dp sp : Int} {d0 s0 : Nat} {r : List jm_V} {ns nd : Nat} {f1 f2 : List Nat} (hF : jm_F p R s mid args c dC dI cA ad adV ids A m) (hrc : jm_rc m k = some (.invokestatic idx, 900, z)) (hs : jm_sh s0 = (0, ns, f1)) (hdd : jm_sh d0 = (0, nd, f2)) (hft : jm_ft r 8 = true) (hne : Nat.beq s0 d0 = false) (b1 : 0 ≤ sp) (b2 : 0 ≤ dp) (b3 : 0 ≤ n) (b4 : sp + n ≤ (ns : Int)) (b5 : dp + n ≤ (nd : Int)) (hG : jm_G p l e R s mid args below meth c dC dI cA ad ids A m FQ gc gs scr (k + 1, ls, r, jm_sr M d0 (jm_cpy (M s0) (M d0) sp dp n))) : jm_G p l e R s mid args below meth c dC dI cA ad ids A m FQ gc gs scr (k, ls, .inl n :: .inl dp :: .inr (.inl d0) :: .inl sp :: .inr (.inl s0) :: r, M) := by
  obtain ⟨hd, hp, hlink, hfr, hlo⟩ := jm_ck_bs hF hrc (by decide)
  have hc1 := jm_sh_lt hs (by decide)
  have hc2 := jm_sh_lt hdd (by decide)
  intro JL H locs g1 g2 g3 g4 g5 g6 g7 g8
  have k1 := jk_hd g2
  have k2 := jk_hd (jk_tl g2)
  have k3 := jk_hd (jk_tl (jk_tl (jk_tl g2)))
  obtain ⟨q1, hq1, hw1⟩ := jm_wd_at (cA := cA) (ad := ad) (M := M) (jk_ids (jk_hd (jk_tl (jk_tl g2))) hc2)
  obtain ⟨q0, hq0, hw0⟩ := jm_wd_at (cA := cA) (ad := ad) (M := M) (jk_ids (jk_hd (jk_tl (jk_tl (jk_tl (jk_tl g2))))) hc1)
  rw [jm_ce_0 hdd] at hw1
  rw [jm_ce_0 hs] at hw0
  have nn : ∀ {x : Int}, jm_in x → 0 ≤ x → ¬ Int32.ofInt x < 0 := fun hx h0 q => absurd ((jn_lt hx jn_in0).mp q) (by omega)
  have hsum := jm_cat_le (ad := ad) r hft
  refine va_copyi hF.1 hF.2.1 (hF.2.2.1.trans g1.1.symm) hF.2.2.2.1 (hF.2.2.2.2.1 _ hlink) (hF.2.2.2.2.1 _ (jm_in_g _ jm_t_copy.1 rfl)) (hF.2.2.2.2.1 _ (jm_in_g _ jm_t_copy.2.1 rfl)) (hF.2.2.2.2.1 _ (jm_in_g _ jm_t_copy.2.2 rfl)) hF.2.2.2.2.2.2.2.1.1 g4 (jm_wd_D M hF.2.2.2.2.2.2.2.2.1) g5 q0 q1 0 0 hw0 hw1 (ty := .int) rfl rfl rfl (nn k3 b1) (nn k2 b2) (nn k1 b3) (by rw [jn_clamp k3, jn_clamp k1]; omega) (by rw [jn_clamp k2, jn_clamp k1]; omega) (fun i _ => rfl) hfr (by show _ + (7 + 11) ≤ _; omega) hd (fun H1 locs1 gP gD gS => ?_)
  rw [show jm_bp m k + 3 = jm_bp m (k + 1) from hp.symm]
  rw [jn_clamp k1, jn_clamp k2, jn_clamp k3, ← jm_cpy_eq b1 b2 b3] at gP
  have hother : ∀ d, d ≠ d0 → jm_sr M d0 (jm_cpy (M s0) (M d0) sp dp n) d = M d := fun d hd => by unfold jm_sr; rw [if_neg hd]
  have hself : jm_sr M d0 (jm_cpy (M s0) (M d0) sp dp n) d0 = jm_cpy (M s0) (M d0) sp dp n := by unfold jm_sr; rw [if_pos rfl]
  have hce : jm_ce cA ad (jm_sr M d0 (jm_cpy (M s0) (M d0) sp dp n)) d0 = .inl (cA 0, nd, .inl (fun j : Nat => Int32.ofInt (jm_cpy (M s0) (M d0) sp dp n (j : Int)))) := by rw [jm_ce_0 hdd, hself]
  rw [← hce, jm_wd_set hF.2.2.2.2.2.2.2.2.1.1 hq1 hother] at gP
  have e9 := hother 999 (by omega)
  have e8 := hother 998 (by omega)
  have := hG JL H1 locs1 g1 (jk_tl (jk_tl (jk_tl (jk_tl (jk_tl g2))))) (jm_okM_sr g3 (fun i => by
    unfold jm_cpy
    split
    · exact g3 _ _ (by omega)
    · exact g3 _ _ (by omega))) gP gS (by dsimp only; rw [e9]; exact g6) (by dsimp only; rw [e9]; exact g7) (fun q => by dsimp only; rw [e8]; exact g8 q)
  dsimp only at this
  rw [e9] at this
  exact this
theorem js_max {idx : Nat} {x y : Int} {r : List jm_V} (hF : jm_F p R s mid args c dC dI cA ad adV ids A m) (hcell : ∀ c', jm_G p l e R s mid args below meth c dC dI cA ad ids A m FQ gc gs scr c' → True) (hrc : jm_rc m k = some (.invokestatic idx, 904, z)) (hft : jm_ft r 8 = true) (hcc : (M 999 0 - gc).toNat ≤ R.cells ∧ (M 999 1 - gs).toNat ≤ R.slots) (hG : jm_G p l e R s mid args below meth c dC dI cA ad ids A m FQ gc gs scr (k + 1, ls, .inl (if x < y then y else x) :: r, M)) : jm_G p l e R s mid args below meth c dC dI cA ad ids A m FQ gc gs scr (k, ls, .inl y :: .inl x :: r, M) := by
  obtain ⟨hd, hp, hlink, hfr, hlo⟩ := jm_ck_bs hF hrc (by decide)
  intro JL H locs g1 g2 g3 g4 g5 g6 g7 g8
  have k1 := jk_hd g2
  have k2 := jk_hd (jk_tl g2)
  have hsum := jm_cat_le (ad := ad) r hft
  have hlink' : Cond.methodLink (jm_cn (jm_mi m).1) idx Lib.Math.max.name ∈ jm_g := by
    rw [← jm_t_max.2.2.2]; exact hlink
  refine va_mmax hF.1 hF.2.1 (hF.2.2.1.trans g1.1.symm) hF.2.2.2.1 (hF.2.2.2.2.1 _ hlink') (hF.2.2.2.2.1 _ (jm_in_g _ jm_t_max.1 rfl)) (hF.2.2.2.2.1 _ (jm_in_g _ jm_t_max.2.2.1 rfl)) (hF.2.2.2.2.1 _ (jm_in_g _ jm_t_max.2.1 rfl)) hfr (by omega) hcc.1 hcc.2 hd ?_
  have e1 : (if Int32.ofInt x < Int32.ofInt y then Int32.ofInt y else Int32.ofInt x) = Int32.ofInt (if x < y then y else x) := by
    by_cases h : x < y
    · rw [if_pos ((jn_lt k2 k1).mpr h), if_pos h]
    · rw [if_neg (fun q => h ((jn_lt k2 k1).mp q)), if_neg h]
  rw [e1]
  have := hG JL H locs g1 (jk_cons (v := .inl (if x < y then y else x)) (by show jm_in _; split <;> assumption) (jk_tl (jk_tl g2))) g3 g4 g5 g6 g7 g8
  dsimp only at this
  rw [hp] at this
  exact this
theorem js_min {idx : Nat} {x y : Int} {r : List jm_V} (hF : jm_F p R s mid args c dC dI cA ad adV ids A m) (hrc : jm_rc m k = some (.invokestatic idx, 905, z)) (hft : jm_ft r 8 = true) (hcc : (M 999 0 - gc).toNat ≤ R.cells ∧ (M 999 1 - gs).toNat ≤ R.slots) (hG : jm_G p l e R s mid args below meth c dC dI cA ad ids A m FQ gc gs scr (k + 1, ls, .inl (if y < x then y else x) :: r, M)) : jm_G p l e R s mid args below meth c dC dI cA ad ids A m FQ gc gs scr (k, ls, .inl y :: .inl x :: r, M) := by
  obtain ⟨hd, hp, hlink, hfr, hlo⟩ := jm_ck_bs hF hrc (by decide)
  intro JL H locs g1 g2 g3 g4 g5 g6 g7 g8
  have k1 := jk_hd g2
  have k2 := jk_hd (jk_tl g2)
  have hsum := jm_cat_le (ad := ad) r hft
  have hlink' : Cond.methodLink (jm_cn (jm_mi m).1) idx Lib.Math.min.name ∈ jm_g := by
    rw [← jm_t_min.2.2]; exact hlink
  refine va_mmin hF.1 hF.2.1 (hF.2.2.1.trans g1.1.symm) hF.2.2.2.1 (hF.2.2.2.2.1 _ hlink') (hF.2.2.2.2.1 _ (jm_in_g _ jm_t_min.1 rfl)) (hF.2.2.2.2.1 _ (jm_in_g _ jm_t_max.2.2.1 rfl)) (hF.2.2.2.2.1 _ (jm_in_g _ jm_t_min.2.1 rfl)) hfr (by omega) hcc.1 hcc.2 hd ?_
  have e1 : (if Int32.ofInt y < Int32.ofInt x then Int32.ofInt y else Int32.ofInt x) = Int32.ofInt (if y < x then y else x) := by
    by_cases h : y < x
    · rw [if_pos ((jn_lt k1 k2).mpr h), if_pos h]
    · rw [if_neg (fun q => h ((jn_lt k1 k2).mp q)), if_neg h]
  rw [e1]
  have := hG JL H locs g1 (jk_cons (v := .inl (if y < x then y else x)) (by show jm_in _; split <;> assumption) (jk_tl (jk_tl g2))) g3 g4 g5 g6 g7 g8
  dsimp only at this
  rw [hp] at this
  exact this
theorem js_ireturn (hF : jm_F p R s mid args c dC dI cA ad adV ids A m) (hrc : jm_rc m k = some (.ireturn, a, z)) (h : jm_do wc w Q k ls M (jm_ef (.ireturn, a, z) k ls st M)) (hfin : jm_Fin p l e R s mid args below meth c dC dI cA ad ids A m FQ gc gs Q) : jm_G p l e R s mid args below meth c dC dI cA ad ids A m FQ gc gs scr (k, ls, st, M) := by
  obtain ⟨hd, -, h2⟩ := jm_dec hrc (by simp)
  have hx : jm_do wc w Q k ls M (match (generalizing := false) st with
    | [.inl x] => match (generalizing := false) a with
      | 0 => .inr (.inr ([], some (.inl x), M))
      | _ => .inr (.inr ([0 ≤ x, x ≤ 1], some (.inl x), M))
    | _ => jm_bad M) := h
  clear h
  have h2 : (match (generalizing := false) a with
    | 0 => decide (jm_r m = some .int)
    | _ => decide (jm_r m = some .boolean)) = true := h2
  split at hx
  · rename_i x
    intro JL H locs g1 g2 g3 g4 g5 g6 g7 g8
    cases a with
    | zero => exact hfin (some (.inl x)) M k JL H locs hx ⟨hd, jk_hd g2, Or.inl (of_decide_eq_true h2)⟩ g3 g1.1 g4 g5 g6 g7
    | succ a => exact hfin (some (.inl x)) M k JL H locs hx.2.2 ⟨hd, jk_hd g2, Or.inr ⟨of_decide_eq_true h2, hx.1, hx.2.1⟩⟩ g3 g1.1 g4 g5 g6 g7
  · exact (jm_rs_do hx).elim
theorem js_return (hF : jm_F p R s mid args c dC dI cA ad adV ids A m) (hrc : jm_rc m k = some (.return_, a, z)) (h : jm_do wc w Q k ls M (jm_ef (.return_, a, z) k ls st M)) (hfin : jm_Fin p l e R s mid args below meth c dC dI cA ad ids A m FQ gc gs Q) : jm_G p l e R s mid args below meth c dC dI cA ad ids A m FQ gc gs scr (k, ls, st, M) := by
  obtain ⟨hd, -, h2⟩ := jm_dec hrc (by simp)
  have hx : jm_do wc w Q k ls M (match (generalizing := false) st with
    | [] => .inr (.inr ([], none, M))
    | _ => jm_bad M) := h
  clear h
  split at hx
  · intro JL H locs g1 g2 g3 g4 g5 g6 g7 g8
    exact hfin none M k JL H locs hx ⟨hd, of_decide_eq_true h2⟩ g3 g1.1 g4 g5 g6 g7
  · exact (jm_rs_do hx).elim
theorem js_new {idx : Nat} (hF : jm_F p R s mid args c dC dI cA ad adV ids A m) (hrc : jm_rc m k = some (.new idx, a, z)) (h : jm_do wc w Q k ls M (jm_ef (.new idx, a, z) k ls st M)) (hfin : jm_Fin p l e R s mid args below meth c dC dI cA ad ids A m FQ gc gs Q) : jm_G p l e R s mid args below meth c dC dI cA ad ids A m FQ gc gs scr (k, ls, st, M) := by
  have hx : jm_do wc w Q k ls M (match (generalizing := false) st with
    | [] => .inr (.inr ([], jm_thr, M))
    | _ => jm_bad M) := h
  clear h
  split at hx
  · intro JL H locs g1 g2 g3 g4 g5 g6 g7 g8
    exact hfin jm_thr M k JL H locs hx ⟨idx, a, z, hrc⟩ g3 g1.1 g4 g5 g6 g7
  · exact (jm_rs_do hx).elim
end JS7
