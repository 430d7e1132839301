/-! POURING: what one way does; the class -/
/-- what flows, what is wanted, what is given, ways, the longest, the least -/
abbrev k_S : Type := (Int → Int) × (Int → Int) × (Int → Int) × Int × Int × Int
def k_wy (st : List k_F) : List (Int × Int) := match st.reverse with
  | [] => []
  | f0 :: l => k_ws f0.1 l
def k_en (st : List k_F) : Int := match st with
  | [] => 0
  | f :: _ => f.1
/-- how much comes by a way -/
def k_by (sl fo ba : Int → Int) (st : List k_F) (rest : Int) (σ : k_S) : Int := k_am sl fo ba σ.1 (k_wy st) (if σ.2.1 (k_en st) < rest then σ.2.1 (k_en st) else rest)
def k_pu (sl : Int → Int) (s : Int) (st : List k_F) (a : Int) (σ : k_S) : k_S := (k_ps sl a (k_wy st) σ.1, jm_up σ.2.1 (k_en st) (σ.2.1 (k_en st) - a), jm_up (jm_up σ.2.2.1 s (σ.2.2.1 s + a)) (k_en st) (jm_up σ.2.2.1 s (σ.2.2.1 s + a) (k_en st) - a), σ.2.2.2.1 + 1, (if σ.2.2.2.2.1 < (st.length : Int) - 1 then (st.length : Int) - 1 else σ.2.2.2.2.1), (if σ.2.2.2.1 = 0 then a else if a < σ.2.2.2.2.2 then a else σ.2.2.2.2.2))
/-- what is known all along -/
def k_iv (w h : Int) (sl fo ba : Int → Int) (K : Int) (σ : k_S) : Prop := k_cap w h sl fo ba σ.1 ∧ (∀ n, g_nd w h n → 0 ≤ σ.2.1 n ∧ σ.2.1 n ≤ 1000000) ∧ (∀ n, g_nd w h n → -K ≤ σ.2.2.1 n ∧ σ.2.2.1 n ≤ K) ∧ 0 ≤ σ.2.2.2.1 ∧ σ.2.2.2.1 ≤ K ∧ 0 ≤ σ.2.2.2.2.1 ∧ σ.2.2.2.2.1 ≤ 36
theorem b_nrev {l : List Int} (hn : l.Nodup) : l.reverse.Nodup := by
  induction l with
  | nil => exact List.nodup_nil
  | cons a l ih =>
    rw [List.nodup_cons] at hn
    rw [List.reverse_cons, List.nodup_append]
    refine ⟨ih hn.2, List.nodup_cons.2 ⟨List.not_mem_nil, List.nodup_nil⟩, ?_⟩
    intro x hx y hy q
    rw [List.mem_singleton.1 hy] at q
    exact hn.1 (q ▸ List.mem_reverse.1 hx)
section Q1
variable {w h : Int} {sl fo ba : Int → Int} {σ : k_S} {s : Int} {st : List k_F}
/-- a way that was found: its links, what it brings -/
theorem k_found (hg : g_ok w h sl) (hs : g_nd w h s) (hcap : k_cap w h sl fo ba σ.1) (hw : k_way w h sl fo ba σ.1 σ.2.1 s = some st) : ∃ f0 l se, st.reverse = f0 :: l ∧ f0.1 = s ∧ k_wy st = k_ws s l ∧ k_ch w h sl fo ba σ.1 s l ∧ (s :: l.map (fun f => f.1)).Nodup ∧ k_en st = k_la s l ∧ g_nd w h (k_en st) ∧ 0 < σ.2.1 (k_en st) ∧ k_ok w h sl fo ba σ.1 st se ∧ st.length = l.length + 1 ∧ l ≠ [] ∧ k_en st ≠ s := by
  obtain ⟨⟨se, hk⟩, hb, f, g, rest, hst, hz⟩ := k_way_of hg hs hw
  have hne : st ≠ [] := by rw [hst]; simp
  obtain ⟨f0, l, r1, r2, r3, r4⟩ := k_ok_ch hk hne
  have hf0 : f0.1 = s := by
    refine hb f0 ?_
    rw [← List.head?_reverse, r1]
    rfl
  have hnd := k_ok_nd hk
  have hnd2 : ((f0 :: l).map (fun f => f.1)).Nodup := by
    rw [r3]
    exact b_nrev hnd
  have hlen : st.length = l.length + 1 := by
    rw [← List.length_reverse, r1, List.length_cons]
  have hen : k_en st = f.1 := by rw [hst]; rfl
  have hla : k_la f0.1 l = f.1 := by
    rw [r4]
    simp only [hst, List.head_cons]
  rw [hf0] at r2 hla
  rw [List.map_cons, hf0] at hnd2
  have hl : l ≠ [] := by
    intro q
    rw [q, hst] at hlen
    simp at hlen
  refine ⟨f0, l, se, r1, hf0, ?_, r2, hnd2, by rw [hen, hla], ?_, by rw [hen]; exact hz, hk, hlen, hl, ?_⟩
  · unfold k_wy
    rw [r1]
    show k_ws f0.1 l = k_ws s l
    rw [hf0]
  · rw [hen]
    exact (k_ok_all hk f (by rw [hst]; exact List.mem_cons_self)).1
  · rw [hen, ← hla]
    obtain ⟨l', g', hl'⟩ : ∃ l' g', l = l' ++ [g'] := ⟨l.dropLast, l.getLast hl, (List.dropLast_concat_getLast hl).symm⟩
    intro q
    rw [hl', k_la_app] at q
    rw [List.nodup_cons] at hnd2
    exact hnd2.1 (List.mem_map.2 ⟨g', by rw [hl']; simp, q⟩)
theorem k_by_b (hg : g_ok w h sl) (hs : g_nd w h s) (hcap : k_cap w h sl fo ba σ.1) {rest : Int} (hr : 0 < rest) (hw : k_way w h sl fo ba σ.1 σ.2.1 s = some st) : 0 < k_by sl fo ba st rest σ ∧ k_by sl fo ba st rest σ ≤ rest ∧ k_by sl fo ba st rest σ ≤ σ.2.1 (k_en st) ∧ ∀ x ∈ k_wy st, k_by sl fo ba st rest σ ≤ k_lf sl fo ba σ.1 x.1 x.2 := by
  obtain ⟨f0, l, se, r1, r2, r3, r4, r5, r6, r7, r8, r9, r10, -⟩ := k_found hg hs hcap hw
  have hle := k_am_le (sl := sl) (fo := fo) (ba := ba) (rn := σ.1) (k_wy st) (if σ.2.1 (k_en st) < rest then σ.2.1 (k_en st) else rest)
  have hpos := k_am_pos (sl := sl) (fo := fo) (ba := ba) (rn := σ.1) (k_wy st) (if σ.2.1 (k_en st) < rest then σ.2.1 (k_en st) else rest) (by split <;> omega) (fun x hx => by rw [r3] at hx; exact (k_ch_E r4 x hx).2.1)
  unfold k_by
  refine ⟨hpos, ?_, ?_, hle.2⟩
  · have := hle.1
    split at this <;> omega
  · have := hle.1
    split at this <;> omega
theorem k_iv_pu (hg : g_ok w h sl) (hs : g_nd w h s) {K rest : Int} (hiv : k_iv w h sl fo ba K σ) (hr : 0 < rest) (hw : k_way w h sl fo ba σ.1 σ.2.1 s = some st) : k_iv w h sl fo ba (K + k_by sl fo ba st rest σ) (k_pu sl s st (k_by sl fo ba st rest σ) σ) := by
  obtain ⟨i1, i2, i3, i4, i5, i6, i7⟩ := hiv
  obtain ⟨f0, l, se, r1, r2, r3, r4, r5, r6, r7, r8, r9, r10, -⟩ := k_found hg hs i1 hw
  obtain ⟨b1, b2, b3, b4⟩ := k_by_b hg hs i1 hr hw
  have hln := k_ok_len hg.1 r9
  generalize k_by sl fo ba st rest σ = a at *
  refine ⟨?_, ?_, ?_, ?_, ?_, ?_, ?_⟩
  · refine k_cap_ps ?_ (by omega) b4 i1
    rw [r3]
    exact k_ch_nd hg.1 r4 r5
  · intro n hn
    show 0 ≤ jm_up σ.2.1 (k_en st) (σ.2.1 (k_en st) - a) n ∧ jm_up σ.2.1 (k_en st) (σ.2.1 (k_en st) - a) n ≤ 1000000
    have h1 := i2 n hn
    have h2 := i2 _ r7
    by_cases q : n = k_en st
    · rw [q, jm_up_s]
      omega
    · rw [jm_up_o q]
      exact h1
  · intro n hn
    show -(K + a) ≤ jm_up (jm_up σ.2.2.1 s (σ.2.2.1 s + a)) (k_en st) (jm_up σ.2.2.1 s (σ.2.2.1 s + a) (k_en st) - a) n ∧ jm_up (jm_up σ.2.2.1 s (σ.2.2.1 s + a)) (k_en st) (jm_up σ.2.2.1 s (σ.2.2.1 s + a) (k_en st) - a) n ≤ K + a
    have h1 := i3 n hn
    have h2 := i3 _ r7
    have h3 := i3 _ hs
    by_cases q : n = k_en st
    · rw [q, jm_up_s]
      by_cases q2 : k_en st = s
      · rw [q2, jm_up_s]
        omega
      · rw [jm_up_o q2]
        omega
    · rw [jm_up_o q]
      by_cases q2 : n = s
      · rw [q2, jm_up_s]
        omega
      · rw [jm_up_o q2]
        omega
  · show 0 ≤ σ.2.2.2.1 + 1
    omega
  · show σ.2.2.2.1 + 1 ≤ K + a
    omega
  · show 0 ≤ (if σ.2.2.2.2.1 < (st.length : Int) - 1 then (st.length : Int) - 1 else σ.2.2.2.2.1)
    split <;> omega
  · show (if σ.2.2.2.2.1 < (st.length : Int) - 1 then (st.length : Int) - 1 else σ.2.2.2.2.1) ≤ 36
    split <;> omega
end Q1
section PS
variable {w h : Int} {sl fo ba : Int → Int} {σ : k_S} {s : Int} {st : List k_F}
/-- what the class's memory holds of a stream -/
def t_rp_S (w h : Int) (sl : Int → Int) (σ : k_S) (M : jm_Mem) : Prop := (∀ e, g_E w h sl e → M 43 e = σ.1 e) ∧ (∀ n, g_nd w h n → M 45 n = σ.2.1 n ∧ M 44 n = σ.2.2.1 n) ∧ M 42 7 = σ.2.2.2.1 ∧ M 42 8 = σ.2.2.2.2.1 ∧ M 42 9 = σ.2.2.2.2.2
theorem p_59_S {M : jm_Mem} {rest K : Int} {se : Int → Bool} {Q : jm_Q} (hg : g_ok w h sl) (hbo : g_bo fo ba) (hs : g_nd w h s) (hT : g_tb w h sl M) (hfo : M 4 = fo) (hba : M 5 = ba) (hiv : k_iv w h sl fo ba K σ) (hK : K ≤ 100000000) (hr : 0 < rest) (hr2 : rest ≤ 1000000) (hw : k_way w h sl fo ba σ.1 σ.2.1 s = some st) (hR : f_rp_S st se M) (ht : t_rp_S w h sl σ M) (hQ : ∀ M', t_rp_S w h sl (k_pu sl s st (k_by sl fo ba st rest σ) σ) M' → jm_fr [42, 43, 44, 45] M M' → (∀ i, i ≠ 7 → i ≠ 8 → i ≠ 9 → M' 42 i = M 42 i) → Q (some (jm_I (k_by sl fo ba st rest σ))) M') : jm_cl 59 [jm_R 42, jm_R 1, jm_I s, jm_I rest] M Q := by
  obtain ⟨i1, i2, i3, i4, i5, i6, i7⟩ := id hiv
  obtain ⟨f0, l, se', r1, r2, r3, r4, r5, r6, r7, r8, r9, r10, r11, r12⟩ := k_found hg hs i1 hw
  obtain ⟨a1, a2, a3, a4⟩ := k_by_b hg hs i1 hr hw
  have hln := k_ok_len hg.1 r9
  have sb := g_nb hg.1 hs
  have eb := g_nb hg.1 r7
  have hat := k_rs_at hR.1
  have m46 : M 46 5 = (l.length : Int) := by rw [hR.2.1, r10]; omega
  obtain ⟨t1, t2, t3, t4, t5⟩ := ht
  have hla : ∀ (p : Int) (l : List k_F), l ≠ [] → ∃ g, l.getLast? = some g ∧ k_la p l = g.1 := by
    intro p l hl
    exact ⟨l.getLast hl, List.getLast?_eq_some_getLast hl, by
      obtain ⟨l', g', hl'⟩ : ∃ l' g', l = l' ++ [g'] := ⟨l.dropLast, l.getLast hl, (List.dropLast_concat_getLast hl).symm⟩
      subst hl'
      rw [k_la_app, List.getLast_concat]⟩
  have hend : M 48 (l.length : Int) = k_en st := by
    obtain ⟨g, g1, g2⟩ := hla s l r11
    have : st.reverse[l.length]? = some g := by
      rw [r1]
      obtain ⟨n, hn⟩ : ∃ n, l.length = n + 1 := ⟨l.length - 1, by have := List.length_pos_iff.2 r11; omega⟩
      rw [hn]
      show l[n]? = some g
      rw [List.getLast?_eq_getElem?, show l.length - 1 = n by omega] at g1
      exact g1
    rw [(hat l.length g this).1, r6, g2]
  have hA : k_by sl fo ba st rest σ = k_am sl fo ba σ.1 (k_ws s l) (if σ.2.1 (k_en st) < rest then σ.2.1 (k_en st) else rest) := by
    unfold k_by
    rw [r3]
  have hP : k_pu sl s st (k_by sl fo ba st rest σ) σ = (k_ps sl (k_by sl fo ba st rest σ) (k_ws s l) σ.1, jm_up σ.2.1 (k_en st) (σ.2.1 (k_en st) - k_by sl fo ba st rest σ), jm_up (jm_up σ.2.2.1 s (σ.2.2.1 s + k_by sl fo ba st rest σ)) (k_en st) (jm_up σ.2.2.1 s (σ.2.2.1 s + k_by sl fo ba st rest σ) (k_en st) - k_by sl fo ba st rest σ), σ.2.2.2.1 + 1, (if σ.2.2.2.2.1 < (l.length : Int) then (l.length : Int) else σ.2.2.2.2.1), (if σ.2.2.2.1 = 0 then k_by sl fo ba st rest σ else if k_by sl fo ba st rest σ < σ.2.2.2.2.2 then k_by sl fo ba st rest σ else σ.2.2.2.2.2)) := by
    unfold k_pu
    rw [r3, r10, show ((l.length + 1 : Nat) : Int) - 1 = (l.length : Int) by omega]
  rw [hP] at hQ
  generalize hae : k_by sl fo ba st rest σ = a at *
  generalize hen : k_en st = en at *
  -- the second loop: what flows along
  have L2 : ∀ (l2 l1 : List k_F), l1 ++ l2 = l → ∀ (M1 : jm_Mem) (r : Int → Int) (o7 : Option jm_V), k_ch w h sl fo ba σ.1 (k_la s l1) l2 → (∀ e, g_E w h sl e → M1 43 e = r e) → (∀ e, g_E w h sl e → (-1000 : Int) - 1000000 * (l1.length : Int) ≤ r e ∧ r e ≤ 1000 + 1000000 * (l1.length : Int)) → jm_fr [43] M M1 → k_ps sl a (k_ws s l) σ.1 = k_ps sl a (k_ws (k_la s l1) l2) r → jm_run 59 (49, [some (jm_R 42), some (jm_R 1), some (jm_I s), some (jm_I rest), some (jm_I en), some (jm_I a), some (jm_I ((l1.length : Int) + 1)), o7], [], M1) Q := by
    intro l2
    induction l2 with
    | nil =>
      intro l1 hl M1 r o7 hc h43 hrb hf hps
      rw [List.append_nil] at hl
      subst hl
      have hps : k_ps sl a (k_ws s l1) σ.1 = r := hps
      have n46 : M1 46 5 = (l1.length : Int) := by rw [hf 46 (by decide)]; exact m46
      have n44 : ∀ n, g_nd w h n → M1 44 n = σ.2.2.1 n := fun n hn => by rw [hf 44 (by decide)]; exact (t2 n hn).2
      have n45 : ∀ n, g_nd w h n → M1 45 n = σ.2.1 n := fun n hn => by rw [hf 45 (by decide)]; exact (t2 n hn).1
      have n427 : M1 42 7 = σ.2.2.2.1 := by rw [hf 42 (by decide)]; exact t3
      have n428 : M1 42 8 = σ.2.2.2.2.1 := by rw [hf 42 (by decide)]; exact t4
      have n429 : M1 42 9 = σ.2.2.2.2.2 := by rw [hf 42 (by decide)]; exact t5
      have bs := i3 s hs
      have be := i3 en r7
      have we := i2 en r7
      rw [hps] at hQ
      refine sg_59_49_S ⟨fun _ => ?_, fun q => by omega⟩
      simp only [jm_st_e, Nat.reduceEqDiff, reduceIte]
      have u1 : jm_up (M1 44) s (M1 44 s + a) en = M1 44 en := jm_up_o r12
      rw [u1, n44 s hs, n44 en r7, n45 en r7]
      refine ⟨sb.1, sb.2, ⟨by omega, by omega⟩, sb.1, sb.2, eb.1, eb.2, ⟨by omega, by omega⟩, eb.1, eb.2, eb.1, eb.2, ⟨by omega, by omega⟩, eb.1, eb.2, fun q => ?_, fun q => ?_⟩
      · rw [n46]
        rw [jm_up_o (show (7 : Int) ≠ 8 by omega), jm_up_o (show (7 : Int) ≠ 9 by omega), jm_up_o (show (8 : Int) ≠ 9 by omega), n427, n428]
        rw [n427] at q
        refine ⟨⟨by omega, by omega⟩, hQ _ ⟨?_, ?_, ?_, ?_, ?_⟩ ?_ ?_⟩
        · intro e he
          simp only [jm_st_e, Nat.reduceEqDiff, reduceIte]
          exact h43 e he
        · intro n hn
          simp only [jm_st_e, Nat.reduceEqDiff, reduceIte]
          constructor
          · by_cases z : n = en
            · rw [z, jm_up_s, jm_up_s]
            · rw [jm_up_o z, jm_up_o z]
              exact n45 n hn
          · by_cases z : n = en
            · rw [z, jm_up_s, jm_up_s, jm_up_o r12]
            · rw [jm_up_o z, jm_up_o z]
              by_cases z2 : n = s
              · rw [z2, jm_up_s, jm_up_s]
              · rw [jm_up_o z2, jm_up_o z2]
                exact n44 n hn
        · simp only [jm_st_e, reduceIte]
          rw [jm_up_s]
        · simp only [jm_st_e, reduceIte]
          rw [jm_up_o (by omega), jm_up_s]
        · simp only [jm_st_e, reduceIte]
          rw [jm_up_o (by omega), jm_up_o (by omega), jm_up_s, if_pos q]
        · exact jm_fr_tr (jm_fr_mo hf (by decide)) (jm_fr_tr (jm_fr_tr (jm_fr_tr (jm_fr_tr (jm_fr_tr (jm_fr_st (by decide)) (jm_fr_st (by decide))) (jm_fr_st (by decide))) (jm_fr_st (by decide))) (jm_fr_st (by decide))) (jm_fr_st (by decide)))
        · intro i j7 j8 j9
          simp only [jm_st_e, Nat.reduceEqDiff, reduceIte]
          rw [jm_up_o j7, jm_up_o j8, jm_up_o j9, hf 42 (by decide)]
      · rw [n46]
        rw [jm_up_o (show (7 : Int) ≠ 8 by omega), jm_up_o (show (7 : Int) ≠ 9 by omega), jm_up_o (show (8 : Int) ≠ 9 by omega), n427, n428, n429]
        rw [n427] at q
        refine ⟨⟨by omega, by omega⟩, hQ _ ⟨?_, ?_, ?_, ?_, ?_⟩ ?_ ?_⟩
        · intro e he
          simp only [jm_st_e, Nat.reduceEqDiff, reduceIte]
          exact h43 e he
        · intro n hn
          simp only [jm_st_e, Nat.reduceEqDiff, reduceIte]
          constructor
          · by_cases z : n = en
            · rw [z, jm_up_s, jm_up_s]
            · rw [jm_up_o z, jm_up_o z]
              exact n45 n hn
          · by_cases z : n = en
            · rw [z, jm_up_s, jm_up_s, jm_up_o r12]
            · rw [jm_up_o z, jm_up_o z]
              by_cases z2 : n = s
              · rw [z2, jm_up_s, jm_up_s]
              · rw [jm_up_o z2, jm_up_o z2]
                exact n44 n hn
        · simp only [jm_st_e, reduceIte]
          rw [jm_up_s]
        · simp only [jm_st_e, reduceIte]
          rw [jm_up_o (by omega), jm_up_s]
        · simp only [jm_st_e, reduceIte]
          rw [jm_up_o (by omega), jm_up_o (by omega), jm_up_s, if_neg q]
        · exact jm_fr_tr (jm_fr_mo hf (by decide)) (jm_fr_tr (jm_fr_tr (jm_fr_tr (jm_fr_tr (jm_fr_tr (jm_fr_st (by decide)) (jm_fr_st (by decide))) (jm_fr_st (by decide))) (jm_fr_st (by decide))) (jm_fr_st (by decide))) (jm_fr_st (by decide)))
        · intro i j7 j8 j9
          simp only [jm_st_e, Nat.reduceEqDiff, reduceIte]
          rw [jm_up_o j7, jm_up_o j8, jm_up_o j9, hf 42 (by decide)]
    | cons f l2 ih =>
      intro l1 hl M1 r o7 hc h43 hrb hf hps
      have hll : l.length = l1.length + (l2.length + 1) := by rw [← hl, List.length_append, List.length_cons]
      have hget : st.reverse[l1.length + 1]? = some f := by
        rw [r1, ← hl]
        show (l1 ++ f :: l2)[l1.length]? = some f
        rw [List.getElem?_append_right (Nat.le_refl _), Nat.sub_self]
        rfl
      obtain ⟨q1, q2⟩ := hat _ _ hget
      have q2 := q2 (by omega)
      rw [show ((l1.length + 1 : Nat) : Int) = (l1.length : Int) + 1 by omega] at q1 q2
      have n48 : M1 48 ((l1.length : Int) + 1) = f.1 := by rw [hf 48 (by decide)]; exact q1
      have n49 : M1 49 ((l1.length : Int) + 1) = f.2.1 := by rw [hf 49 (by decide)]; exact q2
      have n46 : M1 46 5 = (l.length : Int) := by rw [hf 46 (by decide)]; exact m46
      have hE := hc.1.1
      obtain ⟨b1, b2, -, -⟩ := g_Eb hg.1 hE
      have hT1 := g_tb_fr hf (by decide) hT
      obtain ⟨-, t9, -, -⟩ := t_E hg.1 hT1 hE
      have hrE := hrb _ hE
      have hfw : (g_to w sl f.2.1 = f.1) ↔ g_fr sl f.2.1 = k_la s l1 := by
        have e3 := (g_ends hg.1 hE).2.2
        rcases k_lk_ends hg.1 hc.1 with ⟨z1, z2⟩ | ⟨z1, z2⟩
        · exact ⟨fun _ => z1, fun _ => z2⟩
        · exact ⟨fun z => absurd (z2.trans z.symm) e3, fun z => absurd (z.trans z1.symm) e3⟩
      have next : ∀ (v : Int), v = r f.2.1 + (if g_fr sl f.2.1 = k_la s l1 then a else -a) → ∀ o7, jm_run 59 (49, [some (jm_R 42), some (jm_R 1), some (jm_I s), some (jm_I rest), some (jm_I en), some (jm_I a), some (jm_I ((l1.length : Int) + 1 + 1)), o7], [], jm_st M1 43 f.2.1 v) Q := by
        intro v hv o7
        have := ih (l1 ++ [f]) (by rw [List.append_assoc]; exact hl) (jm_st M1 43 f.2.1 v) (jm_up r f.2.1 v) o7 (by rw [k_la_app]; exact hc.2) ?_ ?_ (jm_fr_tr hf (jm_fr_st (by decide))) ?_
        · rw [show ((l1 ++ [f]).length : Int) = (l1.length : Int) + 1 by rw [List.length_append, List.length_singleton]; omega] at this
          exact this
        · intro e he
          simp only [jm_st_e, reduceIte]
          by_cases z : e = f.2.1
          · rw [z, jm_up_s, jm_up_s]
          · rw [jm_up_o z, jm_up_o z]
            exact h43 e he
        · intro e he
          rw [show ((l1 ++ [f]).length : Int) = (l1.length : Int) + 1 by rw [List.length_append, List.length_singleton]; omega]
          have := hrb e he
          by_cases z : e = f.2.1
          · rw [z, jm_up_s, hv]
            split <;> omega
          · rw [jm_up_o z]
            omega
        · rw [k_la_app, hps, hv]
          rfl
      refine sg_59_49_S ⟨fun q => by omega, fun _ => ?_⟩
      refine sc_49_Se ⟨by omega, by omega, ?_⟩
      rw [n49]
      refine ⟨f.2.1, rfl, b1, b2, b1, b2, ?_⟩
      refine sc_48_Se ⟨by omega, by omega, ?_⟩
      rw [n48, t9, h43 _ hE]
      refine ⟨f.1, rfl, fun c => ?_, fun c => ?_⟩
      · have z := hfw.1 c
        refine ⟨⟨by omega, by omega⟩, b1, b2, ⟨by omega, by omega⟩, next _ (by rw [if_pos z]) _⟩
      · have z : ¬ g_fr sl f.2.1 = k_la s l1 := fun z => c (hfw.2 z)
        refine ⟨⟨by omega, by omega⟩, ⟨by omega, by omega⟩, b1, b2, ⟨by omega, by omega⟩, next _ (by rw [if_neg z]) _⟩
  -- the first loop: how much
  have L1 : ∀ (l2 l1 : List k_F), l1 ++ l2 = l → ∀ (x : Int) (o7 : Option jm_V), k_ch w h sl fo ba σ.1 (k_la s l1) l2 → a = k_am sl fo ba σ.1 (k_ws (k_la s l1) l2) x → jm_run 59 (16, [some (jm_R 42), some (jm_R 1), some (jm_I s), some (jm_I rest), some (jm_I en), some (jm_I x), some (jm_I ((l1.length : Int) + 1)), o7], [], M) Q := by
    intro l2
    induction l2 with
    | nil =>
      intro l1 hl x o7 hc hax
      rw [List.append_nil] at hl
      have hax : a = x := hax
      refine sg_59_16_S ⟨fun _ => ?_, fun q => by rw [hl] at q; omega⟩
      rw [← hax]
      exact L2 l [] rfl M σ.1 _ r4 t1 (fun e he => by
        have h1 := i1 e he
        have h2 := hbo e
        have h3 : (([] : List k_F).length : Int) = 0 := rfl
        omega) (jm_fr_rfl _ _) rfl
    | cons f l2 ih =>
      intro l1 hl x o7 hc hax
      have hll : l.length = l1.length + (l2.length + 1) := by rw [← hl, List.length_append, List.length_cons]
      have hget : st.reverse[l1.length + 1]? = some f := by
        rw [r1, ← hl]
        show (l1 ++ f :: l2)[l1.length]? = some f
        rw [List.getElem?_append_right (Nat.le_refl _), Nat.sub_self]
        rfl
      obtain ⟨q1, q2⟩ := hat _ _ hget
      have q2 := q2 (by omega)
      rw [show ((l1.length + 1 : Nat) : Int) = (l1.length : Int) + 1 by omega] at q1 q2
      have hE := hc.1.1
      obtain ⟨b1, b2, -, -⟩ := g_Eb hg.1 hE
      obtain ⟨-, t9, -, -⟩ := t_E hg.1 hT hE
      have hcE := i1 _ hE
      have hbE := hbo f.2.1
      have hfw : (g_to w sl f.2.1 = f.1) ↔ g_fr sl f.2.1 = k_la s l1 := by
        have e3 := (g_ends hg.1 hE).2.2
        rcases k_lk_ends hg.1 hc.1 with ⟨z1, z2⟩ | ⟨z1, z2⟩
        · exact ⟨fun _ => z1, fun _ => z2⟩
        · exact ⟨fun z => absurd (z2.trans z.symm) e3, fun z => absurd (z.trans z1.symm) e3⟩
      have hax : a = k_am sl fo ba σ.1 (k_ws f.1 l2) (if k_lf sl fo ba σ.1 f.2.1 (k_la s l1) < x then k_lf sl fo ba σ.1 f.2.1 (k_la s l1) else x) := hax
      have next : ∀ o7, jm_run 59 (16, [some (jm_R 42), some (jm_R 1), some (jm_I s), some (jm_I rest), some (jm_I en), some (jm_I (if k_lf sl fo ba σ.1 f.2.1 (k_la s l1) < x then k_lf sl fo ba σ.1 f.2.1 (k_la s l1) else x)), some (jm_I ((l1.length : Int) + 1 + 1)), o7], [], M) Q := by
        intro o7
        have := ih (l1 ++ [f]) (by rw [List.append_assoc]; exact hl) (if k_lf sl fo ba σ.1 f.2.1 (k_la s l1) < x then k_lf sl fo ba σ.1 f.2.1 (k_la s l1) else x) o7 (by rw [k_la_app]; exact hc.2) (by rw [k_la_app]; exact hax)
        rw [show ((l1 ++ [f]).length : Int) = (l1.length : Int) + 1 by rw [List.length_append, List.length_singleton]; omega] at this
        exact this
      refine sg_59_16_S ⟨fun q => by omega, fun _ => ?_⟩
      refine sc_49_Se ⟨by omega, by omega, ?_⟩
      rw [q2]
      refine ⟨f.2.1, rfl, b1, b2, ?_⟩
      refine sc_48_Se ⟨by omega, by omega, ?_⟩
      rw [q1, t9]
      refine ⟨f.1, rfl, fun c => ?_, fun c => ?_⟩
      · have z := hfw.1 c
        rw [e_60_S b1 b2 (by rw [hfo, hba]; exact hbo) (by rw [t1 _ hE]; omega), hfo, hba, t1 _ hE, if_neg (by omega)]
        refine ⟨_, rfl, ⟨by omega, by omega⟩, ?_⟩
        have := next (some (jm_I f.2.1))
        rw [show k_lf sl fo ba σ.1 f.2.1 (k_la s l1) = fo f.2.1 - σ.1 f.2.1 from if_pos z] at this
        exact this
      · have z : ¬ g_fr sl f.2.1 = k_la s l1 := fun z => c (hfw.2 z)
        rw [e_60_S b1 b2 (by rw [hfo, hba]; exact hbo) (by rw [t1 _ hE]; omega), hfo, hba, t1 _ hE, if_pos rfl]
        refine ⟨_, rfl, ⟨by omega, by omega⟩, ?_⟩
        have := next (some (jm_I f.2.1))
        rw [show k_lf sl fo ba σ.1 f.2.1 (k_la s l1) = ba f.2.1 + σ.1 f.2.1 from if_neg z] at this
        exact this
  refine sc_59_S ?_
  rw [m46]
  refine sc_48_Se ⟨by omega, by omega, ?_⟩
  rw [hend]
  refine ⟨en, rfl, eb.1, eb.2, ?_⟩
  rw [(t2 en r7).1]
  exact L1 l [] rfl _ _ r4 hA
end PS
section PU
variable {w h : Int} {sl fo ba : Int → Int} {σ : k_S} {s : Int} {st : List k_F}
/-- what the class's memory holds of a stream -/
def t_rp_U (w h : Int) (sl : Int → Int) (σ : k_S) (M : jm_Mem) : Prop := (∀ e, g_E w h sl e → M 53 e = σ.1 e) ∧ (∀ n, g_nd w h n → M 55 n = σ.2.1 n ∧ M 54 n = σ.2.2.1 n) ∧ M 52 7 = σ.2.2.2.1 ∧ M 52 8 = σ.2.2.2.2.1 ∧ M 52 9 = σ.2.2.2.2.2
theorem p_59_U {M : jm_Mem} {rest K : Int} {se : Int → Bool} {Q : jm_Q} (hg : g_ok w h sl) (hbo : g_bo fo ba) (hs : g_nd w h s) (hT : g_tb w h sl M) (hfo : M 4 = fo) (hba : M 5 = ba) (hiv : k_iv w h sl fo ba K σ) (hK : K ≤ 100000000) (hr : 0 < rest) (hr2 : rest ≤ 1000000) (hw : k_way w h sl fo ba σ.1 σ.2.1 s = some st) (hR : f_rp_U st se M) (ht : t_rp_U w h sl σ M) (hQ : ∀ M', t_rp_U w h sl (k_pu sl s st (k_by sl fo ba st rest σ) σ) M' → jm_fr [52, 53, 54, 55] M M' → (∀ i, i ≠ 7 → i ≠ 8 → i ≠ 9 → M' 52 i = M 52 i) → Q (some (jm_I (k_by sl fo ba st rest σ))) M') : jm_cl 59 [jm_R 52, jm_R 1, jm_I s, jm_I rest] M Q := by
  obtain ⟨i1, i2, i3, i4, i5, i6, i7⟩ := id hiv
  obtain ⟨f0, l, se', r1, r2, r3, r4, r5, r6, r7, r8, r9, r10, r11, r12⟩ := k_found hg hs i1 hw
  obtain ⟨a1, a2, a3, a4⟩ := k_by_b hg hs i1 hr hw
  have hln := k_ok_len hg.1 r9
  have sb := g_nb hg.1 hs
  have eb := g_nb hg.1 r7
  have hat := k_rs_at hR.1
  have m46 : M 56 5 = (l.length : Int) := by rw [hR.2.1, r10]; omega
  obtain ⟨t1, t2, t3, t4, t5⟩ := ht
  have hla : ∀ (p : Int) (l : List k_F), l ≠ [] → ∃ g, l.getLast? = some g ∧ k_la p l = g.1 := by
    intro p l hl
    exact ⟨l.getLast hl, List.getLast?_eq_some_getLast hl, by
      obtain ⟨l', g', hl'⟩ : ∃ l' g', l = l' ++ [g'] := ⟨l.dropLast, l.getLast hl, (List.dropLast_concat_getLast hl).symm⟩
      subst hl'
      rw [k_la_app, List.getLast_concat]⟩
  have hend : M 58 (l.length : Int) = k_en st := by
    obtain ⟨g, g1, g2⟩ := hla s l r11
    have : st.reverse[l.length]? = some g := by
      rw [r1]
      obtain ⟨n, hn⟩ : ∃ n, l.length = n + 1 := ⟨l.length - 1, by have := List.length_pos_iff.2 r11; omega⟩
      rw [hn]
      show l[n]? = some g
      rw [List.getLast?_eq_getElem?, show l.length - 1 = n by omega] at g1
      exact g1
    rw [(hat l.length g this).1, r6, g2]
  have hA : k_by sl fo ba st rest σ = k_am sl fo ba σ.1 (k_ws s l) (if σ.2.1 (k_en st) < rest then σ.2.1 (k_en st) else rest) := by
    unfold k_by
    rw [r3]
  have hP : k_pu sl s st (k_by sl fo ba st rest σ) σ = (k_ps sl (k_by sl fo ba st rest σ) (k_ws s l) σ.1, jm_up σ.2.1 (k_en st) (σ.2.1 (k_en st) - k_by sl fo ba st rest σ), jm_up (jm_up σ.2.2.1 s (σ.2.2.1 s + k_by sl fo ba st rest σ)) (k_en st) (jm_up σ.2.2.1 s (σ.2.2.1 s + k_by sl fo ba st rest σ) (k_en st) - k_by sl fo ba st rest σ), σ.2.2.2.1 + 1, (if σ.2.2.2.2.1 < (l.length : Int) then (l.length : Int) else σ.2.2.2.2.1), (if σ.2.2.2.1 = 0 then k_by sl fo ba st rest σ else if k_by sl fo ba st rest σ < σ.2.2.2.2.2 then k_by sl fo ba st rest σ else σ.2.2.2.2.2)) := by
    unfold k_pu
    rw [r3, r10, show ((l.length + 1 : Nat) : Int) - 1 = (l.length : Int) by omega]
  rw [hP] at hQ
  generalize hae : k_by sl fo ba st rest σ = a at *
  generalize hen : k_en st = en at *
  -- the second loop: what flows along
  have L2 : ∀ (l2 l1 : List k_F), l1 ++ l2 = l → ∀ (M1 : jm_Mem) (r : Int → Int) (o7 : Option jm_V), k_ch w h sl fo ba σ.1 (k_la s l1) l2 → (∀ e, g_E w h sl e → M1 53 e = r e) → (∀ e, g_E w h sl e → (-1000 : Int) - 1000000 * (l1.length : Int) ≤ r e ∧ r e ≤ 1000 + 1000000 * (l1.length : Int)) → jm_fr [53] M M1 → k_ps sl a (k_ws s l) σ.1 = k_ps sl a (k_ws (k_la s l1) l2) r → jm_run 59 (49, [some (jm_R 52), some (jm_R 1), some (jm_I s), some (jm_I rest), some (jm_I en), some (jm_I a), some (jm_I ((l1.length : Int) + 1)), o7], [], M1) Q := by
    intro l2
    induction l2 with
    | nil =>
      intro l1 hl M1 r o7 hc h43 hrb hf hps
      rw [List.append_nil] at hl
      subst hl
      have hps : k_ps sl a (k_ws s l1) σ.1 = r := hps
      have n46 : M1 56 5 = (l1.length : Int) := by rw [hf 56 (by decide)]; exact m46
      have n44 : ∀ n, g_nd w h n → M1 54 n = σ.2.2.1 n := fun n hn => by rw [hf 54 (by decide)]; exact (t2 n hn).2
      have n45 : ∀ n, g_nd w h n → M1 55 n = σ.2.1 n := fun n hn => by rw [hf 55 (by decide)]; exact (t2 n hn).1
      have n427 : M1 52 7 = σ.2.2.2.1 := by rw [hf 52 (by decide)]; exact t3
      have n428 : M1 52 8 = σ.2.2.2.2.1 := by rw [hf 52 (by decide)]; exact t4
      have n429 : M1 52 9 = σ.2.2.2.2.2 := by rw [hf 52 (by decide)]; exact t5
      have bs := i3 s hs
      have be := i3 en r7
      have we := i2 en r7
      rw [hps] at hQ
      refine sg_59_49_U ⟨fun _ => ?_, fun q => by omega⟩
      simp only [jm_st_e, Nat.reduceEqDiff, reduceIte]
      have u1 : jm_up (M1 54) s (M1 54 s + a) en = M1 54 en := jm_up_o r12
      rw [u1, n44 s hs, n44 en r7, n45 en r7]
      refine ⟨sb.1, sb.2, ⟨by omega, by omega⟩, sb.1, sb.2, eb.1, eb.2, ⟨by omega, by omega⟩, eb.1, eb.2, eb.1, eb.2, ⟨by omega, by omega⟩, eb.1, eb.2, fun q => ?_, fun q => ?_⟩
      · rw [n46]
        rw [jm_up_o (show (7 : Int) ≠ 8 by omega), jm_up_o (show (7 : Int) ≠ 9 by omega), jm_up_o (show (8 : Int) ≠ 9 by omega), n427, n428]
        rw [n427] at q
        refine ⟨⟨by omega, by omega⟩, hQ _ ⟨?_, ?_, ?_, ?_, ?_⟩ ?_ ?_⟩
        · intro e he
          simp only [jm_st_e, Nat.reduceEqDiff, reduceIte]
          exact h43 e he
        · intro n hn
          simp only [jm_st_e, Nat.reduceEqDiff, reduceIte]
          constructor
          · by_cases z : n = en
            · rw [z, jm_up_s, jm_up_s]
            · rw [jm_up_o z, jm_up_o z]
              exact n45 n hn
          · by_cases z : n = en
            · rw [z, jm_up_s, jm_up_s, jm_up_o r12]
            · rw [jm_up_o z, jm_up_o z]
              by_cases z2 : n = s
              · rw [z2, jm_up_s, jm_up_s]
              · rw [jm_up_o z2, jm_up_o z2]
                exact n44 n hn
        · simp only [jm_st_e, reduceIte]
          rw [jm_up_s]
        · simp only [jm_st_e, reduceIte]
          rw [jm_up_o (by omega), jm_up_s]
        · simp only [jm_st_e, reduceIte]
          rw [jm_up_o (by omega), jm_up_o (by omega), jm_up_s, if_pos q]
        · exact jm_fr_tr (jm_fr_mo hf (by decide)) (jm_fr_tr (jm_fr_tr (jm_fr_tr (jm_fr_tr (jm_fr_tr (jm_fr_st (by decide)) (jm_fr_st (by decide))) (jm_fr_st (by decide))) (jm_fr_st (by decide))) (jm_fr_st (by decide))) (jm_fr_st (by decide)))
        · intro i j7 j8 j9
          simp only [jm_st_e, Nat.reduceEqDiff, reduceIte]
          rw [jm_up_o j7, jm_up_o j8, jm_up_o j9, hf 52 (by decide)]
      · rw [n46]
        rw [jm_up_o (show (7 : Int) ≠ 8 by omega), jm_up_o (show (7 : Int) ≠ 9 by omega), jm_up_o (show (8 : Int) ≠ 9 by omega), n427, n428, n429]
        rw [n427] at q
        refine ⟨⟨by omega, by omega⟩, hQ _ ⟨?_, ?_, ?_, ?_, ?_⟩ ?_ ?_⟩
        · intro e he
          simp only [jm_st_e, Nat.reduceEqDiff, reduceIte]
          exact h43 e he
        · intro n hn
          simp only [jm_st_e, Nat.reduceEqDiff, reduceIte]
          constructor
          · by_cases z : n = en
            · rw [z, jm_up_s, jm_up_s]
            · rw [jm_up_o z, jm_up_o z]
              exact n45 n hn
          · by_cases z : n = en
            · rw [z, jm_up_s, jm_up_s, jm_up_o r12]
            · rw [jm_up_o z, jm_up_o z]
              by_cases z2 : n = s
              · rw [z2, jm_up_s, jm_up_s]
              · rw [jm_up_o z2, jm_up_o z2]
                exact n44 n hn
        · simp only [jm_st_e, reduceIte]
          rw [jm_up_s]
        · simp only [jm_st_e, reduceIte]
          rw [jm_up_o (by omega), jm_up_s]
        · simp only [jm_st_e, reduceIte]
          rw [jm_up_o (by omega), jm_up_o (by omega), jm_up_s, if_neg q]
        · exact jm_fr_tr (jm_fr_mo hf (by decide)) (jm_fr_tr (jm_fr_tr (jm_fr_tr (jm_fr_tr (jm_fr_tr (jm_fr_st (by decide)) (jm_fr_st (by decide))) (jm_fr_st (by decide))) (jm_fr_st (by decide))) (jm_fr_st (by decide))) (jm_fr_st (by decide)))
        · intro i j7 j8 j9
          simp only [jm_st_e, Nat.reduceEqDiff, reduceIte]
          rw [jm_up_o j7, jm_up_o j8, jm_up_o j9, hf 52 (by decide)]
    | cons f l2 ih =>
      intro l1 hl M1 r o7 hc h43 hrb hf hps
      have hll : l.length = l1.length + (l2.length + 1) := by rw [← hl, List.length_append, List.length_cons]
      have hget : st.reverse[l1.length + 1]? = some f := by
        rw [r1, ← hl]
        show (l1 ++ f :: l2)[l1.length]? = some f
        rw [List.getElem?_append_right (Nat.le_refl _), Nat.sub_self]
        rfl
      obtain ⟨q1, q2⟩ := hat _ _ hget
      have q2 := q2 (by omega)
      rw [show ((l1.length + 1 : Nat) : Int) = (l1.length : Int) + 1 by omega] at q1 q2
      have n48 : M1 58 ((l1.length : Int) + 1) = f.1 := by rw [hf 58 (by decide)]; exact q1
      have n49 : M1 59 ((l1.length : Int) + 1) = f.2.1 := by rw [hf 59 (by decide)]; exact q2
      have n46 : M1 56 5 = (l.length : Int) := by rw [hf 56 (by decide)]; exact m46
      have hE := hc.1.1
      obtain ⟨b1, b2, -, -⟩ := g_Eb hg.1 hE
      have hT1 := g_tb_fr hf (by decide) hT
      obtain ⟨-, t9, -, -⟩ := t_E hg.1 hT1 hE
      have hrE := hrb _ hE
      have hfw : (g_to w sl f.2.1 = f.1) ↔ g_fr sl f.2.1 = k_la s l1 := by
        have e3 := (g_ends hg.1 hE).2.2
        rcases k_lk_ends hg.1 hc.1 with ⟨z1, z2⟩ | ⟨z1, z2⟩
        · exact ⟨fun _ => z1, fun _ => z2⟩
        · exact ⟨fun z => absurd (z2.trans z.symm) e3, fun z => absurd (z.trans z1.symm) e3⟩
      have next : ∀ (v : Int), v = r f.2.1 + (if g_fr sl f.2.1 = k_la s l1 then a else -a) → ∀ o7, jm_run 59 (49, [some (jm_R 52), some (jm_R 1), some (jm_I s), some (jm_I rest), some (jm_I en), some (jm_I a), some (jm_I ((l1.length : Int) + 1 + 1)), o7], [], jm_st M1 53 f.2.1 v) Q := by
        intro v hv o7
        have := ih (l1 ++ [f]) (by rw [List.append_assoc]; exact hl) (jm_st M1 53 f.2.1 v) (jm_up r f.2.1 v) o7 (by rw [k_la_app]; exact hc.2) ?_ ?_ (jm_fr_tr hf (jm_fr_st (by decide))) ?_
        · rw [show ((l1 ++ [f]).length : Int) = (l1.length : Int) + 1 by rw [List.length_append, List.length_singleton]; omega] at this
          exact this
        · intro e he
          simp only [jm_st_e, reduceIte]
          by_cases z : e = f.2.1
          · rw [z, jm_up_s, jm_up_s]
          · rw [jm_up_o z, jm_up_o z]
            exact h43 e he
        · intro e he
          rw [show ((l1 ++ [f]).length : Int) = (l1.length : Int) + 1 by rw [List.length_append, List.length_singleton]; omega]
          have := hrb e he
          by_cases z : e = f.2.1
          · rw [z, jm_up_s, hv]
            split <;> omega
          · rw [jm_up_o z]
            omega
        · rw [k_la_app, hps, hv]
          rfl
      refine sg_59_49_U ⟨fun q => by omega, fun _ => ?_⟩
      refine sc_49_Ue ⟨by omega, by omega, ?_⟩
      rw [n49]
      refine ⟨f.2.1, rfl, b1, b2, b1, b2, ?_⟩
      refine sc_48_Ue ⟨by omega, by omega, ?_⟩
      rw [n48, t9, h43 _ hE]
      refine ⟨f.1, rfl, fun c => ?_, fun c => ?_⟩
      · have z := hfw.1 c
        refine ⟨⟨by omega, by omega⟩, b1, b2, ⟨by omega, by omega⟩, next _ (by rw [if_pos z]) _⟩
      · have z : ¬ g_fr sl f.2.1 = k_la s l1 := fun z => c (hfw.2 z)
        refine ⟨⟨by omega, by omega⟩, ⟨by omega, by omega⟩, b1, b2, ⟨by omega, by omega⟩, next _ (by rw [if_neg z]) _⟩
  -- the first loop: how much
  have L1 : ∀ (l2 l1 : List k_F), l1 ++ l2 = l → ∀ (x : Int) (o7 : Option jm_V), k_ch w h sl fo ba σ.1 (k_la s l1) l2 → a = k_am sl fo ba σ.1 (k_ws (k_la s l1) l2) x → jm_run 59 (16, [some (jm_R 52), some (jm_R 1), some (jm_I s), some (jm_I rest), some (jm_I en), some (jm_I x), some (jm_I ((l1.length : Int) + 1)), o7], [], M) Q := by
    intro l2
    induction l2 with
    | nil =>
      intro l1 hl x o7 hc hax
      rw [List.append_nil] at hl
      have hax : a = x := hax
      refine sg_59_16_U ⟨fun _ => ?_, fun q => by rw [hl] at q; omega⟩
      rw [← hax]
      exact L2 l [] rfl M σ.1 _ r4 t1 (fun e he => by
        have h1 := i1 e he
        have h2 := hbo e
        have h3 : (([] : List k_F).length : Int) = 0 := rfl
        omega) (jm_fr_rfl _ _) rfl
    | cons f l2 ih =>
      intro l1 hl x o7 hc hax
      have hll : l.length = l1.length + (l2.length + 1) := by rw [← hl, List.length_append, List.length_cons]
      have hget : st.reverse[l1.length + 1]? = some f := by
        rw [r1, ← hl]
        show (l1 ++ f :: l2)[l1.length]? = some f
        rw [List.getElem?_append_right (Nat.le_refl _), Nat.sub_self]
        rfl
      obtain ⟨q1, q2⟩ := hat _ _ hget
      have q2 := q2 (by omega)
      rw [show ((l1.length + 1 : Nat) : Int) = (l1.length : Int) + 1 by omega] at q1 q2
      have hE := hc.1.1
      obtain ⟨b1, b2, -, -⟩ := g_Eb hg.1 hE
      obtain ⟨-, t9, -, -⟩ := t_E hg.1 hT hE
      have hcE := i1 _ hE
      have hbE := hbo f.2.1
      have hfw : (g_to w sl f.2.1 = f.1) ↔ g_fr sl f.2.1 = k_la s l1 := by
        have e3 := (g_ends hg.1 hE).2.2
        rcases k_lk_ends hg.1 hc.1 with ⟨z1, z2⟩ | ⟨z1, z2⟩
        · exact ⟨fun _ => z1, fun _ => z2⟩
        · exact ⟨fun z => absurd (z2.trans z.symm) e3, fun z => absurd (z.trans z1.symm) e3⟩
      have hax : a = k_am sl fo ba σ.1 (k_ws f.1 l2) (if k_lf sl fo ba σ.1 f.2.1 (k_la s l1) < x then k_lf sl fo ba σ.1 f.2.1 (k_la s l1) else x) := hax
      have next : ∀ o7, jm_run 59 (16, [some (jm_R 52), some (jm_R 1), some (jm_I s), some (jm_I rest), some (jm_I en), some (jm_I (if k_lf sl fo ba σ.1 f.2.1 (k_la s l1) < x then k_lf sl fo ba σ.1 f.2.1 (k_la s l1) else x)), some (jm_I ((l1.length : Int) + 1 + 1)), o7], [], M) Q := by
        intro o7
        have := ih (l1 ++ [f]) (by rw [List.append_assoc]; exact hl) (if k_lf sl fo ba σ.1 f.2.1 (k_la s l1) < x then k_lf sl fo ba σ.1 f.2.1 (k_la s l1) else x) o7 (by rw [k_la_app]; exact hc.2) (by rw [k_la_app]; exact hax)
        rw [show ((l1 ++ [f]).length : Int) = (l1.length : Int) + 1 by rw [List.length_append, List.length_singleton]; omega] at this
        exact this
      refine sg_59_16_U ⟨fun q => by omega, fun _ => ?_⟩
      refine sc_49_Ue ⟨by omega, by omega, ?_⟩
      rw [q2]
      refine ⟨f.2.1, rfl, b1, b2, ?_⟩
      refine sc_48_Ue ⟨by omega, by omega, ?_⟩
      rw [q1, t9]
      refine ⟨f.1, rfl, fun c => ?_, fun c => ?_⟩
      · have z := hfw.1 c
        rw [e_60_U b1 b2 (by rw [hfo, hba]; exact hbo) (by rw [t1 _ hE]; omega), hfo, hba, t1 _ hE, if_neg (by omega)]
        refine ⟨_, rfl, ⟨by omega, by omega⟩, ?_⟩
        have := next (some (jm_I f.2.1))
        rw [show k_lf sl fo ba σ.1 f.2.1 (k_la s l1) = fo f.2.1 - σ.1 f.2.1 from if_pos z] at this
        exact this
      · have z : ¬ g_fr sl f.2.1 = k_la s l1 := fun z => c (hfw.2 z)
        rw [e_60_U b1 b2 (by rw [hfo, hba]; exact hbo) (by rw [t1 _ hE]; omega), hfo, hba, t1 _ hE, if_pos rfl]
        refine ⟨_, rfl, ⟨by omega, by omega⟩, ?_⟩
        have := next (some (jm_I f.2.1))
        rw [show k_lf sl fo ba σ.1 f.2.1 (k_la s l1) = ba f.2.1 + σ.1 f.2.1 from if_neg z] at this
        exact this
  refine sc_59_U ?_
  rw [m46]
  refine sc_48_Ue ⟨by omega, by omega, ?_⟩
  rw [hend]
  refine ⟨en, rfl, eb.1, eb.2, ?_⟩
  rw [(t2 en r7).1]
  exact L1 l [] rfl _ _ r4 hA
end PU
