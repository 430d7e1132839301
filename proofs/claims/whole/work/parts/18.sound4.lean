/-- the law's script: an int row that nobody writes -/
def jm_scr (ad : Nat → Nat) (A : Nat → Prop) (s : State) (scr : Int → Int) : Prop := ∃ (L : Nat) (xs : Nat → Int32), va_X (ad 998) L xs s s.heap ∧ ad 998 < s.heap.size ∧ ¬ A (ad 998) ∧ L ≤ 3072 ∧ scr (-1) = (L : Int) ∧ ∀ j : Nat, j < L → scr (j : Int) = (xs j).toInt
theorem jm_ce_0 {cA : Nat → ClassId} {ad : Nat → Nat} {M : jm_Mem} {c0 n : Nat} {f : List Nat} (h : jm_sh c0 = (0, n, f)) : jm_ce cA ad M c0 = .inl (cA 0, n, .inl (fun j => Int32.ofInt (M c0 (j : Int)))) := by
  unfold jm_ce
  rw [h]
  rfl
theorem jm_ce_1 {cA : Nat → ClassId} {ad : Nat → Nat} {M : jm_Mem} {c0 n : Nat} {f : List Nat} (h : jm_sh c0 = (1, n, f)) : jm_ce cA ad M c0 = .inl (cA 1, n, .inl (fun j => Int32.ofInt (M c0 (j : Int)))) := by
  unfold jm_ce
  rw [h]
  rfl
theorem jm_ce_2 {cA : Nat → ClassId} {ad : Nat → Nat} {M : jm_Mem} {c0 n : Nat} {f : List Nat} (h : jm_sh c0 = (2, n, f)) : jm_ce cA ad M c0 = .inl (cA 2, n, .inl (fun j => Int32.ofInt (M c0 (j : Int)))) := by
  unfold jm_ce
  rw [h]
  rfl
theorem jm_ce_3 {cA : Nat → ClassId} {ad : Nat → Nat} {M : jm_Mem} {c0 n : Nat} {f : List Nat} (h : jm_sh c0 = (3, n, f)) : jm_ce cA ad M c0 = .inl (cA 3, n, .inr (.inl (fun j => Int64.ofInt (M c0 (j : Int))))) := by
  unfold jm_ce
  rw [h]
  rfl
theorem jm_ce_4 {cA : Nat → ClassId} {ad : Nat → Nat} {M : jm_Mem} {c0 n : Nat} {f : List Nat} (h : jm_sh c0 = (4, n, f)) : jm_ce cA ad M c0 = .inl (cA 4, n, .inr (.inr (.inr (.inr (fun j => some (ad (f.getD j 0))))))) := by
  unfold jm_ce
  rw [h]
  rfl
theorem jm_cast {i : Int} (h : 0 ≤ i) : ((i.toNat : Nat) : Int) = i := Int.toNat_of_nonneg h
theorem jm_upd {g : Int → Int} {i v : Int} (h : 0 ≤ i) : (fun j : Nat => Int32.ofInt (jm_up g i v (j : Int))) = upd (fun j : Nat => Int32.ofInt (g (j : Int))) i.toNat (Int32.ofInt v) := by
  funext j
  unfold jm_up upd
  by_cases hj : (j : Int) = i
  · rw [if_pos hj, if_pos (by omega)]
  · rw [if_neg hj, if_neg (by omega)]
theorem jm_st_row {M : jm_Mem} {c : Nat} {i v : Int} : jm_st M c i v c = jm_up (M c) i v := by
  unfold jm_st jm_sr
  rw [if_pos rfl]
section JS4
variable {p : Program} {l : Launch} {e : Env} {R : Room} {s : State} {mid : MethodId} {args : Array Value} {below : List Frame} {meth : Method} {c : Code}
variable {dC : Nat → ClassId} {dI : Nat → Nat → Nat} {cA : Nat → ClassId} {ad adV : Nat → Nat} {ids : List Nat} {A : Nat → Prop} {m : Nat} {FQ : State → Prop} {gc gs : Int} {scr : Int → Int}
variable {wc : Nat → List jm_V → jm_Mem → jm_Q → Prop} {w : jm_Cfg → Prop} {Q : jm_Q} {k : Nat} {ls : jm_Ls} {st : List jm_V} {M : jm_Mem} {a : Nat} {z : Int}
theorem jk_ids {c0 : Nat} (h : jm_okv ids m (.inr (.inl c0))) (hc : c0 < 95) : c0 ∈ ids := by
  rcases h with h | h | h
  · exact h
  · omega
  · omega
theorem js_ald {c0 : Nat} {i : Int} {r : List jm_V} (hF : jm_F p R s mid args c dC dI cA ad adV ids A m) (hsc : m = 216 → jm_scr ad A s scr) (hrc : jm_rc m k = some (.iaload, a, z)) (h : jm_do wc w Q k ls M (jm_ald k ls M c0 i r)) (hw : ∀ c', w c' → jm_G p l e R s mid args below meth c dC dI cA ad ids A m FQ gc gs scr c') : jm_G p l e R s mid args below meth c dC dI cA ad ids A m FQ gc gs scr (k, ls, .inl i :: .inr (.inl c0) :: r, M) := by
  obtain ⟨hd, hp, -⟩ := jm_nx hrc (by simp) rfl
  unfold jm_ald at h
  split at h
  · rename_i hb
    have hb := Nat.eq_of_beq_eq_true hb
    subst hb
    obtain ⟨h0, h1, h⟩ := h
    refine js_go (fun JL _ g gM => jk_cons (v := .inl (M 998 i)) (gM 998 i (by decide)) (jk_tl (jk_tl g))) (fun JL H locs cells slots _ g gM _ gS g8 hW => ?_) (hw _ h)
    have hm : m = 216 := by
      rcases jk_hd (jk_tl g) with q | q | q
      · exact absurd (hF.2.2.2.2.2.2.2.2.1.2.1 998 q) (by omega)
      · omega
      · exact q.2
    obtain ⟨L, xs, hX, hbl, hbA, hL, e1, e2⟩ := hsc hm
    have hi := jk_hd g
    rw [g8 hm, e1] at h1
    rw [hp] at hW
    refine va_sld hF.1 hF.2.1 hX hbl hbA gS (jn_vp hi h0 h1) hd ?_
    rw [jn_clamp hi]
    have e3 := e2 i.toNat (by omega)
    rw [jm_cast h0] at e3
    have e4 : Int32.ofInt (M 998 i) = xs i.toNat := by rw [g8 hm, e3, Int32.ofInt_toInt]
    rw [← e4]
    exact hW
  · split at h
    · rename_i n f hs
      obtain ⟨h0, h1, h⟩ := h
      have hc := jm_sh_lt hs (by decide)
      refine js_go (fun JL _ g gM => jk_cons (v := .inl (M c0 i)) (gM c0 i (by omega)) (jk_tl (jk_tl g))) (fun JL H locs cells slots _ g gM gP gS _ hW => ?_) (hw _ h)
      obtain ⟨q0, -, hq⟩ := jm_wd_at (cA := cA) (ad := ad) (M := M) (jk_ids (jk_hd (jk_tl g)) hc)
      rw [jm_ce_0 hs] at hq
      have hi := jk_hd g
      rw [hp] at hW
      refine va_iald hF.1 hF.2.1 hF.2.2.2.2.2.2.2.1.1 gP q0 0 hq rfl (jn_vp hi h0 h1) hd ?_
      rw [jn_clamp hi, jm_cast h0]
      exact hW
    · exact (jm_rs_do h).elim
theorem js_bld {c0 : Nat} {i : Int} {r : List jm_V} (hF : jm_F p R s mid args c dC dI cA ad adV ids A m) (hrc : jm_rc m k = some (.baload, a, z)) (h : jm_do wc w Q k ls M (jm_bld k ls M c0 i r)) (hw : ∀ c', w c' → jm_G p l e R s mid args below meth c dC dI cA ad ids A m FQ gc gs scr c') : jm_G p l e R s mid args below meth c dC dI cA ad ids A m FQ gc gs scr (k, ls, .inl i :: .inr (.inl c0) :: r, M) := by
  obtain ⟨hd, hp, -⟩ := jm_nx hrc (by simp) rfl
  unfold jm_bld at h
  split at h
  · rename_i n f hs
    obtain ⟨h0, h1, h⟩ := h
    have hc := jm_sh_lt hs (by decide)
    refine js_go (fun JL _ g gM => jk_cons (v := .inl (M c0 i)) (gM c0 i (by omega)) (jk_tl (jk_tl g))) (fun JL H locs cells slots _ g gM gP gS _ hW => ?_) (hw _ h)
    obtain ⟨q0, -, hq⟩ := jm_wd_at (cA := cA) (ad := ad) (M := M) (jk_ids (jk_hd (jk_tl g)) hc)
    rw [jm_ce_1 hs] at hq
    have hi := jk_hd g
    rw [hp] at hW
    refine va_zald hF.1 hF.2.1 hF.2.2.2.2.2.2.2.1.1 gP q0 1 hq rfl (jn_vp hi h0 h1) hd ?_
    rw [jn_clamp hi, jm_cast h0]
    exact hW
  · rename_i n f hs
    obtain ⟨h0, h1, h⟩ := h
    have hc := jm_sh_lt hs (by decide)
    refine js_go (fun JL _ g gM => jk_cons (v := .inl (M c0 i)) (gM c0 i (by omega)) (jk_tl (jk_tl g))) (fun JL H locs cells slots _ g gM gP gS _ hW => ?_) (hw _ h)
    obtain ⟨q0, -, hq⟩ := jm_wd_at (cA := cA) (ad := ad) (M := M) (jk_ids (jk_hd (jk_tl g)) hc)
    rw [jm_ce_2 hs] at hq
    have hi := jk_hd g
    rw [hp] at hW
    refine va_bald hF.1 hF.2.1 hF.2.2.2.2.2.2.2.1.1 gP q0 2 hq rfl (jn_vp hi h0 h1) hd ?_
    rw [jn_clamp hi, jm_cast h0]
    exact hW
  · exact (jm_rs_do h).elim
theorem js_iaload (hF : jm_F p R s mid args c dC dI cA ad adV ids A m) (hsc : m = 216 → jm_scr ad A s scr) (hrc : jm_rc m k = some (.iaload, a, z)) (h : jm_do wc w Q k ls M (jm_ef (.iaload, a, z) k ls st M)) (hw : ∀ c', w c' → jm_G p l e R s mid args below meth c dC dI cA ad ids A m FQ gc gs scr c') : jm_G p l e R s mid args below meth c dC dI cA ad ids A m FQ gc gs scr (k, ls, st, M) := by
  have hx : jm_do wc w Q k ls M (match (generalizing := false) st with
    | .inl i :: .inr (.inl c) :: r => jm_ald k ls M c i r
    | _ => jm_bad M) := h
  clear h
  split at hx
  · exact js_ald hF hsc hrc hx hw
  · exact (jm_rs_do hx).elim
theorem js_baload (hF : jm_F p R s mid args c dC dI cA ad adV ids A m) (hrc : jm_rc m k = some (.baload, a, z)) (h : jm_do wc w Q k ls M (jm_ef (.baload, a, z) k ls st M)) (hw : ∀ c', w c' → jm_G p l e R s mid args below meth c dC dI cA ad ids A m FQ gc gs scr c') : jm_G p l e R s mid args below meth c dC dI cA ad ids A m FQ gc gs scr (k, ls, st, M) := by
  have hx : jm_do wc w Q k ls M (match (generalizing := false) st with
    | .inl i :: .inr (.inl c) :: r => jm_bld k ls M c i r
    | _ => jm_bad M) := h
  clear h
  split at hx
  · exact js_bld hF hrc hx hw
  · exact (jm_rs_do hx).elim
theorem js_laload (hF : jm_F p R s mid args c dC dI cA ad adV ids A m) (hrc : jm_rc m k = some (.laload, a, z)) (h : jm_do wc w Q k ls M (jm_ef (.laload, a, z) k ls st M)) (hw : ∀ c', w c' → jm_G p l e R s mid args below meth c dC dI cA ad ids A m FQ gc gs scr c') : jm_G p l e R s mid args below meth c dC dI cA ad ids A m FQ gc gs scr (k, ls, st, M) := by
  obtain ⟨hd, hp, -⟩ := jm_nx hrc (by simp) rfl
  have hx : jm_do wc w Q k ls M (match (generalizing := false) st with
    | .inl i :: .inr (.inl c) :: r => match (generalizing := false) jm_sh c with
      | (3, n, _) => jm_gs [0 ≤ i, i < (n : Int)] (k + 1) ls (.inr (.inr (M c i)) :: r) M
      | _ => jm_bad M
    | _ => jm_bad M) := h
  clear h
  split at hx
  · rename_i i c0 r
    split at hx
    · rename_i n f hs
      obtain ⟨h0, h1, hx⟩ := hx
      have hc := jm_sh_lt hs (by decide)
      refine js_go (fun JL _ g gM => jk_cons (v := .inr (.inr (M c0 i))) (gM c0 i (by omega)) (jk_tl (jk_tl g))) (fun JL H locs cells slots _ g gM gP gS _ hW => ?_) (hw _ hx)
      obtain ⟨q0, -, hq⟩ := jm_wd_at (cA := cA) (ad := ad) (M := M) (jk_ids (jk_hd (jk_tl g)) hc)
      rw [jm_ce_3 hs] at hq
      have hi := jk_hd g
      rw [hp] at hW
      refine va_lald hF.1 hF.2.1 hF.2.2.2.2.2.2.2.1.1 gP q0 3 hq rfl (jn_vp hi h0 h1) hd ?_
      rw [jn_clamp hi, jm_cast h0]
      exact hW
    · exact (jm_rs_do hx).elim
  · exact (jm_rs_do hx).elim
theorem js_aaload (hF : jm_F p R s mid args c dC dI cA ad adV ids A m) (hrc : jm_rc m k = some (.aaload, a, z)) (h : jm_do wc w Q k ls M (jm_ef (.aaload, a, z) k ls st M)) (hw : ∀ c', w c' → jm_G p l e R s mid args below meth c dC dI cA ad ids A m FQ gc gs scr c') : jm_G p l e R s mid args below meth c dC dI cA ad ids A m FQ gc gs scr (k, ls, st, M) := by
  obtain ⟨hd, hp, -⟩ := jm_nx hrc (by simp) rfl
  have hx : jm_do wc w Q k ls M (match (generalizing := false) st with
    | .inl i :: .inr (.inl c) :: r => match (generalizing := false) jm_sh c with
      | (4, 2, [a, b]) => .inl ([0 ≤ i, i < 2], [(i = 0, (k + 1, ls, .inr (.inl a) :: r, M))], (k + 1, ls, .inr (.inl b) :: r, M))
      | _ => jm_bad M
    | _ => jm_bad M) := h
  clear h
  split at hx
  · rename_i i c0 r
    split at hx
    · rename_i t0 t1 hs
      obtain ⟨h0, h1, hx⟩ := hx
      have hc := jm_sh_lt hs (by decide)
      have key : ∀ (t : Nat), (i = 0 ∧ t = t0) ∨ (i = 1 ∧ t = t1) → jm_G p l e R s mid args below meth c dC dI cA ad ids A m FQ gc gs scr (k + 1, ls, .inr (.inl t) :: r, M) → jm_G p l e R s mid args below meth c dC dI cA ad ids A m FQ gc gs scr (k, ls, .inl i :: .inr (.inl c0) :: r, M) := by
        intro t ht hG
        refine js_go (fun JL _ g gM => jk_cons (v := .inr (.inl t)) (Or.inl ?_) (jk_tl (jk_tl g))) (fun JL H locs cells slots _ g gM gP gS _ hW => ?_) hG
        · obtain ⟨q1, q2⟩ := hF.2.2.2.2.2.2.2.2.1.2.2.2.2.2 c0 (jk_ids (jk_hd (jk_tl g)) hc) t0 t1 hs
          rcases ht with ⟨-, rfl⟩ | ⟨-, rfl⟩
          · exact q1
          · exact q2
        · obtain ⟨q0, -, hq⟩ := jm_wd_at (cA := cA) (ad := ad) (M := M) (jk_ids (jk_hd (jk_tl g)) hc)
          rw [jm_ce_4 hs] at hq
          have hi := jk_hd g
          rw [hp] at hW
          refine va_aldq hF.1 hF.2.1 hF.2.2.2.2.2.2.2.1.1 gP q0 4 hq rfl (jn_vp hi h0 h1) hd ?_
          rw [jn_clamp hi]
          rcases ht with ⟨rfl, rfl⟩ | ⟨rfl, rfl⟩
          · exact hW
          · exact hW
      by_cases h2 : i = 0
      · exact key t0 (Or.inl ⟨h2, rfl⟩) (hw _ (hx.1 h2))
      · exact key t1 (Or.inr ⟨by omega, rfl⟩) (hw _ (hx.2 h2))
    · exact (jm_rs_do hx).elim
  · exact (jm_rs_do hx).elim
/-- behind a write: the memory's other rows -/
theorem js_wr {c0 : Nat} {i v : Int} {ls' : jm_Ls} {st' : List jm_V} {k' : Nat} (hF : jm_F p R s mid args c dC dI cA ad adV ids A m) (hc : c0 < 95) (hG : jm_G p l e R s mid args below meth c dC dI cA ad ids A m FQ gc gs scr (k', ls', st', jm_st M c0 i v)) {JL : Array Slot} {H1 : Heap} {locs1 : List Loc} (h1 : jm_lr ad ids m ls' JL) (h2 : ∀ u ∈ st', jm_okv ids m u) (h3 : jm_okM M) (hv : jm_in v) (q0 : Nat) (hq : ids[q0]? = some c0) {E : va_E} (hE : E = jm_ce cA ad (jm_st M c0 i v) c0) (hP : va_P (dC, dI) vwCl ((jm_wd cA ad ids M).set q0 (ad c0, E)) H1) (hS : va_S A s.heap H1 locs1) (h6 : gc ≤ M 999 0) (h7 : gs ≤ M 999 1) (h8 : m = 216 → M 998 = scr) : W p l e R s mid args below meth c H1 locs1 (M 999 0 - gc).toNat (M 999 1 - gs).toNat FQ (F0 mid (jm_bp m k') JL (st'.map (jm_val ad))) := by
  have e9 : jm_st M c0 i v 999 = M 999 := jm_st_ne (by omega)
  have e8 : jm_st M c0 i v 998 = M 998 := jm_st_ne (by omega)
  rw [hE, jm_wd_set hF.2.2.2.2.2.2.2.2.1.1 hq (fun d hd => jm_st_ne hd)] at hP
  have := hG JL H1 locs1 h1 h2 (jm_okM_st h3 hv) hP hS (by dsimp only; rw [e9]; exact h6) (by dsimp only; rw [e9]; exact h7) (fun q => by dsimp only; rw [e8]; exact h8 q)
  dsimp only at this
  rw [e9] at this
  exact this
theorem js_iastore (hF : jm_F p R s mid args c dC dI cA ad adV ids A m) (hrc : jm_rc m k = some (.iastore, a, z)) (h : jm_do wc w Q k ls M (jm_ef (.iastore, a, z) k ls st M)) (hw : ∀ c', w c' → jm_G p l e R s mid args below meth c dC dI cA ad ids A m FQ gc gs scr c') : jm_G p l e R s mid args below meth c dC dI cA ad ids A m FQ gc gs scr (k, ls, st, M) := by
  obtain ⟨hd, hp, -⟩ := jm_nx hrc (by simp) rfl
  have hx : jm_do wc w Q k ls M (match (generalizing := false) st with
    | .inl v :: .inl i :: .inr (.inl c) :: r => match (generalizing := false) jm_sh c with
      | (0, n, _) => jm_gs [0 ≤ i, i < (n : Int)] (k + 1) ls r (jm_st M c i v)
      | _ => jm_bad M
    | _ => jm_bad M) := h
  clear h
  split at hx
  · rename_i v i c0 r
    split at hx
    · rename_i n f hs
      obtain ⟨h0, h1, hx⟩ := hx
      have hc := jm_sh_lt hs (by decide)
      intro JL H locs g1 g2 g3 g4 g5 g6 g7 g8
      obtain ⟨q0, hq1, hq⟩ := jm_wd_at (cA := cA) (ad := ad) (M := M) (jk_ids (jk_hd (jk_tl (jk_tl g2))) hc)
      rw [jm_ce_0 hs] at hq
      have hi := jk_hd (jk_tl g2)
      refine va_iast hF.1 hF.2.1 hF.2.2.2.2.2.2.2.1.1 g4 (jm_wd_D M hF.2.2.2.2.2.2.2.2.1) g5 q0 0 hq rfl (jn_vp hi h0 h1) hd (fun H1 locs1 gP gD gS => ?_)
      rw [show jm_bp m k + 1 = jm_bp m (k + 1) from hp.symm]
      refine js_wr hF hc (hw _ hx) g1 (jk_tl (jk_tl (jk_tl g2))) g3 (jk_hd g2) q0 hq1 ?_ gP gS g6 g7 g8
      rw [jm_ce_0 hs, jn_clamp hi, jm_st_row, jm_upd h0]
    · exact (jm_rs_do hx).elim
  · exact (jm_rs_do hx).elim
theorem js_bastore (hF : jm_F p R s mid args c dC dI cA ad adV ids A m) (hrc : jm_rc m k = some (.bastore, a, z)) (h : jm_do wc w Q k ls M (jm_ef (.bastore, a, z) k ls st M)) (hw : ∀ c', w c' → jm_G p l e R s mid args below meth c dC dI cA ad ids A m FQ gc gs scr c') : jm_G p l e R s mid args below meth c dC dI cA ad ids A m FQ gc gs scr (k, ls, st, M) := by
  obtain ⟨hd, hp, -⟩ := jm_nx hrc (by simp) rfl
  have hx : jm_do wc w Q k ls M (match (generalizing := false) st with
    | .inl v :: .inl i :: .inr (.inl c) :: r => match (generalizing := false) jm_sh c with
      | (1, n, _) => jm_gs [0 ≤ i, i < (n : Int), 0 ≤ v, v ≤ 1] (k + 1) ls r (jm_st M c i v)
      | (2, n, _) => jm_gs [0 ≤ i, i < (n : Int), -128 ≤ v, v ≤ 127] (k + 1) ls r (jm_st M c i v)
      | _ => jm_bad M
    | _ => jm_bad M) := h
  clear h
  split at hx
  · rename_i v i c0 r
    split at hx
    · rename_i n f hs
      obtain ⟨h0, h1, hv0, hv1, hx⟩ := hx
      have hc := jm_sh_lt hs (by decide)
      intro JL H locs g1 g2 g3 g4 g5 g6 g7 g8
      obtain ⟨q0, hq1, hq⟩ := jm_wd_at (cA := cA) (ad := ad) (M := M) (jk_ids (jk_hd (jk_tl (jk_tl g2))) hc)
      rw [jm_ce_1 hs] at hq
      have hi := jk_hd (jk_tl g2)
      refine va_zast hF.1 hF.2.1 hF.2.2.2.2.2.2.2.1.1 g4 (jm_wd_D M hF.2.2.2.2.2.2.2.2.1) g5 q0 1 hq rfl (jn_vp hi h0 h1) hd (fun H1 locs1 gP gD gS => ?_)
      rw [show jm_bp m k + 1 = jm_bp m (k + 1) from hp.symm]
      refine js_wr hF hc (hw _ hx) g1 (jk_tl (jk_tl (jk_tl g2))) g3 (jk_hd g2) q0 hq1 ?_ gP gS g6 g7 g8
      rw [jm_ce_1 hs, jn_clamp hi, jm_st_row, jm_upd h0, (jn_narZ hv0 hv1).2.2]
    · rename_i n f hs
      obtain ⟨h0, h1, hv0, hv1, hx⟩ := hx
      have hc := jm_sh_lt hs (by decide)
      intro JL H locs g1 g2 g3 g4 g5 g6 g7 g8
      obtain ⟨q0, hq1, hq⟩ := jm_wd_at (cA := cA) (ad := ad) (M := M) (jk_ids (jk_hd (jk_tl (jk_tl g2))) hc)
      rw [jm_ce_2 hs] at hq
      have hi := jk_hd (jk_tl g2)
      refine va_bast hF.1 hF.2.1 hF.2.2.2.2.2.2.2.1.1 g4 (jm_wd_D M hF.2.2.2.2.2.2.2.2.1) g5 q0 2 hq rfl (jn_vp hi h0 h1) hd (fun H1 locs1 gP gD gS => ?_)
      rw [show jm_bp m k + 1 = jm_bp m (k + 1) from hp.symm]
      refine js_wr hF hc (hw _ hx) g1 (jk_tl (jk_tl (jk_tl g2))) g3 (jk_hd g2) q0 hq1 ?_ gP gS g6 g7 g8
      rw [jm_ce_2 hs, jn_clamp hi, jm_st_row, jm_upd h0, jn_narB hv0 hv1]
    · exact (jm_rs_do hx).elim
  · exact (jm_rs_do hx).elim
theorem js_alen (hF : jm_F p R s mid args c dC dI cA ad adV ids A m) (hsc : m = 216 → jm_scr ad A s scr) (hrc : jm_rc m k = some (.arraylength, a, z)) (h : jm_do wc w Q k ls M (jm_ef (.arraylength, a, z) k ls st M)) (hw : ∀ c', w c' → jm_G p l e R s mid args below meth c dC dI cA ad ids A m FQ gc gs scr c') : jm_G p l e R s mid args below meth c dC dI cA ad ids A m FQ gc gs scr (k, ls, st, M) := by
  obtain ⟨hd, hp, -⟩ := jm_nx hrc (by simp) rfl
  have hx : jm_do wc w Q k ls M (match (generalizing := false) st with
    | .inr (.inl c) :: r => match (generalizing := false) Nat.beq c 998, jm_sh c with
      | true, _ => jm_go (k + 1) ls (.inl (M 998 (-1)) :: r) M
      | false, (0, n, _) => jm_go (k + 1) ls (.inl (n : Int) :: r) M
      | _, _ => jm_bad M
    | _ => jm_bad M) := h
  clear h
  split at hx
  · rename_i c0 r
    split at hx
    · rename_i hb
      have hb := Nat.eq_of_beq_eq_true hb
      subst hb
      refine js_go (fun JL _ g gM => jk_cons (v := .inl (M 998 (-1))) (gM 998 (-1) (by decide)) (jk_tl g)) (fun JL H locs cells slots _ g gM _ gS g8 hW => ?_) (hw _ hx)
      have hm : m = 216 := by
        rcases jk_hd g with q | q | q
        · exact absurd (hF.2.2.2.2.2.2.2.2.1.2.1 998 q) (by omega)
        · omega
        · exact q.2
      obtain ⟨L, xs, hX, hbl, hbA, hL, e1, e2⟩ := hsc hm
      rw [hp] at hW
      refine va_slen hF.1 hF.2.1 hX hbl hbA gS hd ?_
      have e4 : Int32.ofInt (M 998 (-1)) = Int32.ofNat L := by rw [g8 hm, e1, Int32.ofInt_eq_ofNat]
      rw [← e4]
      exact hW
    · rename_i n f _ hs
      have hc := jm_sh_lt hs (by decide)
      have hn : n ≤ 900 := by
        have : ∀ c, c < 95 → (jm_sh c).2.1 ≤ 900 := by decide +kernel
        have := this c0 hc
        rw [hs] at this
        exact this
      refine js_go (fun JL _ g gM => jk_cons (v := .inl (n : Int)) ⟨by omega, by omega⟩ (jk_tl g)) (fun JL H locs cells slots _ g gM gP gS _ hW => ?_) (hw _ hx)
      obtain ⟨q0, -, hq⟩ := jm_wd_at (cA := cA) (ad := ad) (M := M) (jk_ids (jk_hd g) hc)
      rw [jm_ce_0 hs] at hq
      rw [hp] at hW
      exact va_alen hF.1 hF.2.1 hF.2.2.2.2.2.2.2.1.1 gP q0 0 hq (ty := .int) rfl (v := Int32.ofInt (n : Int)) Int32.ofInt_eq_ofNat.symm hd hW
    · exact (jm_rs_do hx).elim
  · exact (jm_rs_do hx).elim
theorem jm_any5 {i x f cl : Nat} (h : jm_flT.any (fun q => Nat.beq q.1 cl && (Nat.beq q.2.1 i && (Nat.beq q.2.2.1 x && Nat.beq q.2.2.2.1 f))) = true) : f < jm_nf x ∧ Cond.fieldLink (jm_cn cl) i (jm_cn x) (jm_tt x f).2.1 (jm_tt x f).2.2.1 ∈ jm_g := by
  obtain ⟨q, hq, h1⟩ := List.any_eq_true.mp h
  rw [Bool.and_eq_true, Bool.and_eq_true, Bool.and_eq_true] at h1
  have e1 := Nat.eq_of_beq_eq_true h1.1
  have e2 := Nat.eq_of_beq_eq_true h1.2.1
  have e3 := Nat.eq_of_beq_eq_true h1.2.2.1
  have e4 := Nat.eq_of_beq_eq_true h1.2.2.2
  have g1 := jm_fl_ok q hq
  have g2 := jm_fl_lt q hq
  rw [e1, e2, e3, e4] at g1
  rw [e3, e4] at g2
  exact ⟨g2, jm_in_g _ g1 rfl⟩
theorem js_getfield {i : Nat} (hF : jm_F p R s mid args c dC dI cA ad adV ids A m) (hrc : jm_rc m k = some (.getfield i, a, z)) (h : jm_do wc w Q k ls M (jm_ef (.getfield i, a, z) k ls st M)) (hw : ∀ c', w c' → jm_G p l e R s mid args below meth c dC dI cA ad ids A m FQ gc gs scr c') : jm_G p l e R s mid args below meth c dC dI cA ad ids A m FQ gc gs scr (k, ls, st, M) := by
  obtain ⟨hd, hp, h2⟩ := jm_nx hrc (by simp) rfl
  obtain ⟨hf, hlink⟩ := jm_any5 h2
  have hx : jm_do wc w Q k ls M (jm_get k a z.toNat ls st M) := h
  clear h
  unfold jm_get at hx
  split at hx
  · rename_i c0 r
    have key : ∀ (zz : Nat) (v : jm_V), Nat.beq (jm_sh c0).1 (10 + z.toNat) = true → jm_fk c0 a = some zz → jm_val ad v = jm_cv ad M c0 a zz → (c0 ∈ ids → jm_okM M → jm_okv ids m v) → jm_G p l e R s mid args below meth c dC dI cA ad ids A m FQ gc gs scr (k + 1, ls, v :: r, M) → jm_G p l e R s mid args below meth c dC dI cA ad ids A m FQ gc gs scr (k, ls, .inr (.inl c0) :: r, M) := by
      intro zz v hb hz hv hok hG
      have hc := jm_fk_lt hz
      obtain ⟨g1, g2, g3, g4⟩ := jm_sh_obj hb hc
      refine js_go (fun JL _ g gM => jk_cons (v := v) (hok (jk_ids (jk_hd g) hc) gM) (jk_tl g)) (fun JL H locs cells slots _ g gM gP gS _ hW => ?_) hG
      obtain ⟨q0, -, hq⟩ := jm_wd_at (cA := cA) (ad := ad) (M := M) (jk_ids (jk_hd g) hc)
      rw [g4] at hq
      rw [hp] at hW
      refine va_get hF.1 hF.2.1 hF.2.2.2.2.1 (jm_uws g1) hF.2.2.2.1 hF.2.2.2.2.2.2.2.1.1 gP q0 hq (jm_cl_ok _ g1) a hf (hF.2.2.2.2.1 _ hlink) (fun x hx => by rw [jm_decl_ok _ g1 a hf] at hx; exact hx) (v := jm_val ad v) ?_ hd hW
      rw [jm_fv_at _ 0 a zz hz, Nat.zero_add, hv]
    split at hx
    · rename_i hb hz
      exact key 0 (.inl (M c0 (a : Int))) hb hz rfl (fun _ gM => gM c0 _ (by have := jm_fk_lt hz; omega)) (hw _ hx)
    · rename_i hb hz
      exact key 1 (.inr (.inr (M c0 (a : Int)))) hb hz rfl (fun _ gM => gM c0 _ (by have := jm_fk_lt hz; omega)) (hw _ hx)
    · rename_i hb hz
      exact key 2 (.inl (M c0 (a : Int))) hb hz rfl (fun _ gM => gM c0 _ (by have := jm_fk_lt hz; omega)) (hw _ hx)
    · rename_i t hb hz
      refine key (t + 3) (.inr (.inl t)) hb hz rfl (fun hc0 _ => Or.inl ?_) (hw _ hx)
      exact hF.2.2.2.2.2.2.2.2.1.2.2.2.2.1 c0 hc0 (by rw [Nat.eq_of_beq_eq_true hb]; omega) a t hz
    · exact (jm_rs_do hx).elim
  · exact (jm_rs_do hx).elim
theorem js_putfield {i : Nat} (hF : jm_F p R s mid args c dC dI cA ad adV ids A m) (hrc : jm_rc m k = some (.putfield i, a, z)) (h : jm_do wc w Q k ls M (jm_ef (.putfield i, a, z) k ls st M)) (hw : ∀ c', w c' → jm_G p l e R s mid args below meth c dC dI cA ad ids A m FQ gc gs scr c') : jm_G p l e R s mid args below meth c dC dI cA ad ids A m FQ gc gs scr (k, ls, st, M) := by
  obtain ⟨hd, hp, h2⟩ := jm_nx hrc (by simp) rfl
  obtain ⟨hf, hlink⟩ := jm_any5 h2
  have hx : jm_do wc w Q k ls M (jm_put k a z.toNat ls st M) := h
  clear h
  unfold jm_put at hx
  have key : ∀ (c0 : Nat) (r : List jm_V) (zz : Nat) (u : jm_V) (x : Int) (ty : FieldType), (zz = 0 ∨ zz = 1 ∨ zz = 2) → Nat.beq (jm_sh c0).1 (10 + z.toNat) = true → jm_fk c0 a = some zz → (jm_okv ids m u → jm_in x) → jm_val ad u = jm_cv ad (jm_st M c0 (a : Int) x) c0 a zz → (z.toNat < 11 → jm_ty z.toNat a = ty → (jm_okv ids m u → narrow ty (jm_val ad u) = jm_val ad u ∧ fits ty (jm_val ad u) = true)) → (∀ j, j = a → jm_ty z.toNat j = ty ∧ (jm_tt z.toNat j).2.2.2 = false) → jm_G p l e R s mid args below meth c dC dI cA ad ids A m FQ gc gs scr (k + 1, ls, r, jm_st M c0 (a : Int) x) → jm_G p l e R s mid args below meth c dC dI cA ad ids A m FQ gc gs scr (k, ls, u :: .inr (.inl c0) :: r, M) := by
    intro c0 r zz u x ty hzz hb hz hux hv hfit hty hG
    have hc := jm_fk_lt hz
    obtain ⟨g1, g2, g3, g4⟩ := jm_sh_obj hb hc
    obtain ⟨t1, t2⟩ := hty a rfl
    intro JL H locs k1 k2 k3 k4 k5 k6 k7 k8
    obtain ⟨q0, hq1, hq⟩ := jm_wd_at (cA := cA) (ad := ad) (M := M) (jk_ids (jk_hd (jk_tl k2)) hc)
    rw [g4] at hq
    obtain ⟨f1, f2⟩ := hfit g1 t1 (jk_hd k2)
    have hpd := jm_ty_ok _ g1 a hf
    rw [t1] at hpd
    refine va_put (v := jm_val ad u) (ty := ty) hF.1 hF.2.1 hF.2.2.2.2.1 (jm_uws g1) (jm_ty z.toNat) (jm_ty_ok _ g1) (jm_nm_ok _ g1) hF.2.2.2.1 hF.2.2.2.2.2.2.2.1.1 k4 (jm_wd_D M hF.2.2.2.2.2.2.2.2.1) k5 q0 hq (jm_cl_ok _ g1) a hf (hF.2.2.2.2.1 _ hlink) (fun x hx => by rw [jm_decl_ok _ g1 a hf] at hx; exact hx) t2 hpd f1 f2 (by rw [jm_fv_len, g2]; exact hf) hd (fun H1 locs1 gP gD gS => ?_)
    rw [show jm_bp m k + 3 = jm_bp m (k + 1) from hp.symm]
    refine js_wr hF hc hG k1 (jk_tl (jk_tl k2)) k3 (hux (jk_hd k2)) q0 hq1 ?_ gP gS k6 k7 k8
    rw [g4, jm_fv_set _ 0 a zz hz (by simp) hzz, Nat.zero_add, hv]
  split at hx
  · rename_i x c0 r
    split at hx
    · rename_i hb hz
      have hc := jm_fk_lt hz
      obtain ⟨g1, g2, g3, g4⟩ := jm_sh_obj hb hc
      refine key c0 r 0 (.inl x) x .int (Or.inl rfl) hb hz (fun q => q) ?_ (fun _ _ _ => ⟨rfl, rfl⟩) (fun j hj => by subst hj; exact (g3 j 0 hz).1 rfl) (hw _ hx)
      show Value.int (Int32.ofInt x) = .int (Int32.ofInt (jm_st M c0 (a : Int) x c0 (a : Int)))
      rw [jm_st_eq, if_pos rfl]
    · rename_i hb hz
      obtain ⟨h0, h1, hx⟩ := hx
      have hc := jm_fk_lt hz
      obtain ⟨g1, g2, g3, g4⟩ := jm_sh_obj hb hc
      refine key c0 r 2 (.inl x) x .boolean (Or.inr (Or.inr rfl)) hb hz (fun q => q) ?_ (fun _ _ _ => ⟨(jn_narZ h0 h1).1, (jn_narZ h0 h1).2.1⟩) (fun j hj => by subst hj; exact (g3 j 2 hz).2.2 rfl) (hw _ hx)
      show Value.int (Int32.ofInt x) = .int (Int32.ofInt (jm_st M c0 (a : Int) x c0 (a : Int)))
      rw [jm_st_eq, if_pos rfl]
    · exact (jm_rs_do hx).elim
  · rename_i x c0 r
    split at hx
    · rename_i hb hz
      have hc := jm_fk_lt hz
      obtain ⟨g1, g2, g3, g4⟩ := jm_sh_obj hb hc
      refine key c0 r 1 (.inr (.inr x)) x .long (Or.inr (Or.inl rfl)) hb hz (fun q => q) ?_ (fun _ _ _ => ⟨rfl, rfl⟩) (fun j hj => by subst hj; exact (g3 j 1 hz).2.1 rfl) (hw _ hx)
      show Value.long (Int64.ofInt x) = .long (Int64.ofInt (jm_st M c0 (a : Int) x c0 (a : Int)))
      rw [jm_st_eq, if_pos rfl]
    · exact (jm_rs_do hx).elim
  · exact (jm_rs_do hx).elim
end JS4
