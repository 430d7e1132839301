/-! WHAT A RUN KEEPS: the script stays, the counts of what was made only grow -/
def jm_le (M M' : jm_Mem) : Prop := M 999 0 ≤ M' 999 0 ∧ M 999 1 ≤ M' 999 1 ∧ M' 998 = M 998
theorem jm_le_refl (M : jm_Mem) : jm_le M M := ⟨Int.le_refl _, Int.le_refl _, rfl⟩
theorem jm_le_trans {M M' M'' : jm_Mem} (h : jm_le M M') (h' : jm_le M' M'') : jm_le M M'' := ⟨Int.le_trans h.1 h'.1, Int.le_trans h.2.1 h'.2.1, h'.2.2.trans h.2.2⟩
theorem jm_le_sr {M : jm_Mem} {c : Nat} {f : Int → Int} (h : c < 95) : jm_le M (jm_sr M c f) := by
  have h1 : jm_sr M c f 999 = M 999 := by unfold jm_sr; rw [if_neg (by omega)]
  have h2 : jm_sr M c f 998 = M 998 := by unfold jm_sr; rw [if_neg (by omega)]
  exact ⟨by rw [h1]; exact Int.le_refl _, by rw [h1]; exact Int.le_refl _, h2⟩
theorem jm_le_st {M : jm_Mem} {c : Nat} {i v : Int} (h : c < 95) : jm_le M (jm_st M c i v) := jm_le_sr h
theorem jm_gh_0 (M : jm_Mem) (a b : Int) : jm_gh M a b 999 0 = M 999 0 + a ∧ jm_gh M a b 999 1 = M 999 1 + b ∧ ∀ c, c ≠ 999 → jm_gh M a b c = M c := by
  unfold jm_gh jm_st jm_sr jm_up
  refine ⟨by simp, by simp, fun c hc => by simp [hc]⟩
theorem jm_le_gh {M : jm_Mem} {a b : Int} (ha : 0 ≤ a) (hb : 0 ≤ b) : jm_le M (jm_gh M a b) := by
  obtain ⟨h1, h2, h3⟩ := jm_gh_0 M a b
  exact ⟨by rw [h1]; omega, by rw [h2]; omega, h3 998 (by decide)⟩
theorem jm_sh_lt {c : Nat} {k n : Nat} {f : List Nat} (h : jm_sh c = (k, n, f)) (hk : k ≠ 99) : c < 95 := by
  rcases Nat.lt_or_ge c 95 with q | q
  · exact q
  · rw [jm_sh_out c q] at h
    exact absurd (congrArg Prod.fst h).symm hk
theorem jm_fk_lt {c k z : Nat} (h : jm_fk c k = some z) : c < 95 := by
  rcases Nat.lt_or_ge c 95 with q | q
  · exact q
  · unfold jm_fk at h
    rw [jm_sh_out c q] at h
    cases h
def jm_eok (M : jm_Mem) (E : jm_Eff) : Prop := match E with
  | .inl (_, dl, d) => (∀ q ∈ dl, jm_le M q.2.2.2.2) ∧ jm_le M d.2.2.2
  | .inr (.inl _) => True
  | .inr (.inr (s, _, M')) => jm_cj s True → jm_le M M'
theorem jm_eok_bad (M : jm_Mem) : jm_eok M (jm_bad M) := fun h => h.1.elim
theorem jm_eok_go {k : Nat} {ls : jm_Ls} {st : List jm_V} {M M' : jm_Mem} (h : jm_le M M') : jm_eok M (jm_go k ls st M') := ⟨fun _ h => (nomatch h), h⟩
theorem jm_eok_gs {s : List Prop} {k : Nat} {ls : jm_Ls} {st : List jm_V} {M M' : jm_Mem} (h : jm_le M M') : jm_eok M (jm_gs s k ls st M') := ⟨fun _ h => (nomatch h), h⟩
theorem jm_eok_br {P : Prop} {a b : Nat} {ls : jm_Ls} {st : List jm_V} {M M' : jm_Mem} (h : jm_le M M') : jm_eok M (jm_br P a b ls st M') := ⟨fun q hq => by rw [List.mem_singleton.mp hq]; exact h, h⟩
theorem jm_eok_swl (x : Int) (ls : jm_Ls) (st : List jm_V) (M : jm_Mem) : ∀ (ts : List Nat) (i : Int), ∀ q ∈ jm_swl x i ts ls st M, jm_le M q.2.2.2.2
  | [], _, q, h => nomatch h
  | t :: ts, i, q, h => by
    rcases List.mem_cons.mp h with h | h
    · rw [h]; exact jm_le_refl M
    · exact jm_eok_swl x ls st M ts (i + 1) q h
theorem jm_eok_call (mi v : Nat) (st : List jm_V) (M : jm_Mem) : jm_eok M (jm_call mi v st M) := by
  unfold jm_call
  split
  · split
    · split
      · exact trivial
      · unfold jm_callv
        split
        · split
          · exact trivial
          · exact jm_eok_bad M
        · exact jm_eok_bad M
    · exact jm_eok_bad M
  · exact jm_eok_bad M
theorem jm_eok_wr1 (mi : Nat) (st : List jm_V) (M : jm_Mem) : jm_eok M (jm_wr1 mi st M) := by
  unfold jm_wr1
  split
  · exact trivial
  · exact jm_eok_bad M
theorem jm_eok_wr2 (mi : Nat) (st : List jm_V) (M : jm_Mem) : jm_eok M (jm_wr2 mi st M) := by
  unfold jm_wr2
  split
  · exact trivial
  · exact jm_eok_bad M
theorem jm_eok_stat (k mi : Nat) (ls : jm_Ls) (st : List jm_V) (M : jm_Mem) : jm_eok M (jm_stat k mi ls st M) := by
  unfold jm_stat
  split
  · split
    · split
      · rename_i h1 h2 h3 h4
        exact jm_eok_gs (jm_le_sr (jm_sh_lt h2 (by decide)))
      · exact jm_eok_bad M
    · exact jm_eok_bad M
  · split
    · split
      · exact jm_eok_gs (jm_le_gh (by decide) (by decide))
      · exact jm_eok_bad M
    · exact jm_eok_bad M
  · split
    · split
      · exact jm_eok_go (jm_le_refl M)
      · exact jm_eok_bad M
    · exact jm_eok_bad M
  · split
    · split
      · exact jm_eok_go (jm_le_refl M)
      · exact jm_eok_bad M
    · exact jm_eok_bad M
  · exact jm_eok_wr1 _ _ _
  · exact jm_eok_wr2 _ _ _
  · exact jm_eok_wr1 _ _ _
  · exact jm_eok_wr1 _ _ _
  · exact jm_eok_wr2 _ _ _
  · exact jm_eok_wr1 _ _ _
  · exact jm_eok_call _ _ _ _
theorem jm_eok_virt (k mi : Nat) (ls : jm_Ls) (st : List jm_V) (M : jm_Mem) : jm_eok M (jm_virt k mi ls st M) := by
  unfold jm_virt
  split
  · split
    · split
      · exact jm_eok_go (jm_le_refl M)
      · exact jm_eok_bad M
    · exact jm_eok_bad M
  · split
    · split
      · exact jm_eok_gs (jm_le_refl M)
      · exact jm_eok_bad M
    · exact jm_eok_bad M
  · exact jm_eok_call _ _ _ _
theorem jm_eok_put (k f ci : Nat) (ls : jm_Ls) (st : List jm_V) (M : jm_Mem) : jm_eok M (jm_put k f ci ls st M) := by
  unfold jm_put
  split
  · split
    · rename_i h1 h2
      exact jm_eok_go (jm_le_st (jm_fk_lt h2))
    · rename_i h1 h2
      exact jm_eok_gs (jm_le_st (jm_fk_lt h2))
    · exact jm_eok_bad M
  · split
    · rename_i h1 h2
      exact jm_eok_go (jm_le_st (jm_fk_lt h2))
    · exact jm_eok_bad M
  · exact jm_eok_bad M
theorem jm_eok_get (k f ci : Nat) (ls : jm_Ls) (st : List jm_V) (M : jm_Mem) : jm_eok M (jm_get k f ci ls st M) := by
  unfold jm_get
  split
  · split <;> first | exact jm_eok_go (jm_le_refl M) | exact jm_eok_bad M
  · exact jm_eok_bad M
theorem jm_eok_b2 {M : jm_Mem} {st : List jm_V} {f : Int → Int → List jm_V → jm_Eff} (h : ∀ x y r, jm_eok M (f x y r)) : jm_eok M (jm_b2 M st f) := by
  unfold jm_b2
  split
  · exact h _ _ _
  · exact jm_eok_bad M
theorem jm_eok_l2 {M : jm_Mem} {st : List jm_V} {f : Int → Int → List jm_V → jm_Eff} (h : ∀ x y r, jm_eok M (f x y r)) : jm_eok M (jm_l2 M st f) := by
  unfold jm_l2
  split
  · exact h _ _ _
  · exact jm_eok_bad M
theorem jm_eok_u1 {M : jm_Mem} {st : List jm_V} {f : Int → List jm_V → jm_Eff} (h : ∀ x r, jm_eok M (f x r)) : jm_eok M (jm_u1 M st f) := by
  unfold jm_u1
  split
  · exact h _ _
  · exact jm_eok_bad M
set_option maxHeartbeats 4000000 in
theorem jm_ef_ok (e : Instr × Nat × Int) (k : Nat) (ls : jm_Ls) (st : List jm_V) (M : jm_Mem) : jm_eok M (jm_ef e k ls st M) := by
  unfold jm_ef
  split
  case h_1 => unfold jm_ldA; split <;> first | exact jm_eok_go (jm_le_refl M) | exact jm_eok_bad M
  case h_2 => unfold jm_ldA; split <;> first | exact jm_eok_go (jm_le_refl M) | exact jm_eok_bad M
  case h_3 => unfold jm_ldI; split <;> first | exact jm_eok_go (jm_le_refl M) | exact jm_eok_bad M
  case h_4 => unfold jm_ldI; split <;> first | exact jm_eok_go (jm_le_refl M) | exact jm_eok_bad M
  case h_5 => unfold jm_ldL; split <;> first | exact jm_eok_go (jm_le_refl M) | exact jm_eok_bad M
  case h_6 => unfold jm_stI; split <;> first | exact jm_eok_go (jm_le_refl M) | exact jm_eok_bad M
  case h_7 => unfold jm_stI; split <;> first | exact jm_eok_go (jm_le_refl M) | exact jm_eok_bad M
  case h_8 => unfold jm_stA; split <;> first | exact jm_eok_go (jm_le_refl M) | exact jm_eok_bad M
  case h_9 => unfold jm_stA; split <;> first | exact jm_eok_go (jm_le_refl M) | exact jm_eok_bad M
  all_goals first
    | exact jm_eok_go (jm_le_refl M)
    | exact jm_eok_bad M
    | exact jm_eok_get _ _ _ _ _ _
    | exact jm_eok_put _ _ _ _ _ _
    | exact jm_eok_stat _ _ _ _ _
    | exact jm_eok_virt _ _ _ _ _
    | exact jm_eok_b2 (fun x y r => jm_eok_gs (jm_le_refl M))
    | exact jm_eok_l2 (fun x y r => jm_eok_gs (jm_le_refl M))
    | exact jm_eok_l2 (fun x y r => jm_eok_go (jm_le_refl M))
    | exact jm_eok_u1 (fun x r => jm_eok_gs (jm_le_refl M))
    | exact jm_eok_u1 (fun x r => jm_eok_go (jm_le_refl M))
    | (unfold jm_i1; exact jm_eok_u1 (fun x r => by split <;> exact jm_eok_br (jm_le_refl M)))
    | (unfold jm_i2; exact jm_eok_b2 (fun x y r => by split <;> exact jm_eok_br (jm_le_refl M)))
    | (split <;> first | exact jm_eok_go (jm_le_refl M) | exact jm_eok_gs (jm_le_refl M) | exact jm_eok_bad M)
    | (split
       · first
         | (unfold jm_ald; split <;> first | exact jm_eok_gs (jm_le_refl M) | (split <;> first | exact jm_eok_gs (jm_le_refl M) | exact jm_eok_bad M))
         | (unfold jm_bld; split <;> first | exact jm_eok_gs (jm_le_refl M) | exact jm_eok_bad M)
         | (split <;> first | exact jm_eok_go (jm_le_refl M) | exact jm_eok_gs (jm_le_refl M) | exact jm_eok_bad M | exact fun _ => jm_le_refl M)
         | exact fun _ => jm_le_refl M
         | (split
            · rename_i h; exact jm_eok_gs (jm_le_st (jm_sh_lt h (by decide)))
            · exact jm_eok_bad M)
         | (split
            · rename_i h; exact jm_eok_gs (jm_le_st (jm_sh_lt h (by decide)))
            · rename_i h; exact jm_eok_gs (jm_le_st (jm_sh_lt h (by decide)))
            · exact jm_eok_bad M)
         | (split
            · exact ⟨fun q hq => by rw [List.mem_singleton.mp hq]; exact jm_le_refl M, jm_le_refl M⟩
            · exact jm_eok_bad M)
         | (split
            · exact ⟨jm_eok_swl _ _ _ _ _ _, jm_le_refl M⟩
            · exact jm_eok_bad M)
       · exact jm_eok_bad M)
    | (split <;> first | exact jm_eok_bad M | exact jm_eok_go (jm_le_refl M))
theorem jm_dl_of2 {w : jm_Cfg → Prop} {d : jm_Cfg} : ∀ {dl : List (Prop × jm_Cfg)}, jm_dl w dl d → ∃ c, w c ∧ (c = d ∨ ∃ P, (P, c) ∈ dl)
  | [], h => ⟨d, h, Or.inl rfl⟩
  | (P, s) :: l, h => by
    by_cases hP : P
    · exact ⟨s, h.1 hP, Or.inr ⟨P, List.mem_cons_self⟩⟩
    · obtain ⟨c, h1, h2⟩ := jm_dl_of2 (h.2 hP)
      refine ⟨c, h1, ?_⟩
      rcases h2 with h2 | ⟨P', h2⟩
      · exact Or.inl h2
      · exact Or.inr ⟨P', List.mem_cons_of_mem _ h2⟩
theorem jm_k_le {w : List jm_V → jm_Mem → Prop} {rest : List jm_V} {r : Option jm_V} {M : jm_Mem} : ∀ {kd : Nat}, jm_k w rest kd r M → ∃ (st : List jm_V) (M' : jm_Mem), w st M' ∧ jm_le M M'
  | 0, h => ⟨_, _, h.2, jm_le_refl M⟩
  | 1, h => by
    obtain ⟨x, h1, h2⟩ := h
    exact ⟨_, _, h2, jm_le_refl M⟩
  | n + 2, h => by
    rcases h with ⟨h1, h2⟩ | ⟨x, h1, h2⟩
    · exact ⟨_, _, h2, jm_le_gh (by decide) (by decide)⟩
    · exact ⟨_, _, h2, jm_le_st (by decide)⟩
/-- a run's end lies above its start -/
theorem jm_wp_le : ∀ (n m : Nat) (c : jm_Cfg) (Q : jm_Q), jm_wp n m c Q → ∃ (r : Option jm_V) (M' : jm_Mem), Q r M' ∧ jm_le c.2.2.2 M' := by
  intro n
  induction n with
  | zero => intro m c Q h; exact h.elim
  | succ n ih =>
    intro m c Q h
    obtain ⟨e, he⟩ := jm_wp_rc h
    rw [jm_wp_succ he] at h
    have hok := jm_ef_ok e c.1 c.2.1 c.2.2.1 c.2.2.2
    generalize jm_ef e c.1 c.2.1 c.2.2.1 c.2.2.2 = E at h hok
    match E, h, hok with
    | .inl (s, dl, d), h, hok =>
      have h0 : jm_cj s (jm_dl (fun c' => jm_wp n m c' Q) dl d) := h
      obtain ⟨c', h1, h2⟩ := jm_dl_of2 (jm_cj_of h0)
      obtain ⟨r, M', h3, h4⟩ := ih m c' Q h1
      refine ⟨r, M', h3, jm_le_trans ?_ h4⟩
      rcases h2 with rfl | ⟨P, hP⟩
      · exact hok.2
      · exact hok.1 _ hP
    | .inr (.inl (kd, mi, as, rest)), h, hok =>
      have h0 : jm_wp n mi (0, jm_pad as (jm_mi mi).2.2.2.1, [], c.2.2.2) (jm_k (fun st M' => jm_wp n m (c.1 + 1, c.2.1, st, M') Q) rest kd) := h
      obtain ⟨r1, M1, h1, h2⟩ := ih _ _ _ h0
      obtain ⟨st1, M2, h5, h6⟩ := jm_k_le h1
      obtain ⟨r, M', h3, h4⟩ := ih _ _ _ h5
      exact ⟨r, M', h3, jm_le_trans h2 (jm_le_trans h6 h4)⟩
    | .inr (.inr (s, r, M')), h, hok =>
      have h0 : jm_cj s (Q r M') := h
      exact ⟨r, M', jm_cj_of h0, hok (jm_cj_map h0 (fun _ => trivial))⟩
