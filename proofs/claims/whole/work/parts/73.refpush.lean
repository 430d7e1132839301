/-! POURING: the reference pushes -/
section Q4
variable {w h : Int} {sl fo ba : Int → Int} {σ : k_S} {s : Int} {st : List k_F}
theorem p_177 {M : jm_Mem} {se : Int → Bool} {a : Int} {Q : jm_Q} (hg : g_ok w h sl) (hbo : g_bo fo ba) (hs : g_nd w h s) (hX : r_X w h sl M) (hcap : k_cap w h sl fo ba σ.1) (hw : k_way w h sl fo ba σ.1 σ.2.1 s = some st) (hR : x_sr st se M) (ht : x_tr w h sl σ M) (hwc : 0 ≤ σ.2.2.2.1 ∧ σ.2.2.2.1 ≤ 200000000) (ha0 : 0 ≤ a) (ha1 : a ≤ 1000000) (hQ : ∀ M', x_tr w h sl (k_pu sl s st a σ) M' → jm_fx [80] [34, 35, 36] M M' → Q none M') : jm_cl 177 [jm_R 67, jm_I a] M Q := by
  obtain ⟨f0, l, se', r1, r2, r3, r4, r5, r6, r7, r8, r9, r10, r11, r12⟩ := k_found hg hs hcap hw
  have hln := k_ok_len hg.1 r9
  have hat := k_rs_at hR.1
  have m45 : M 67 45 = (l.length : Int) + 1 := by rw [hR.2.1, r10]; omega
  obtain ⟨t1, t2, t3, t4⟩ := ht
  have L : ∀ (l2 l1 : List k_F), l1 ++ l2 = l → ∀ (M1 : jm_Mem) (r : Int → Int), k_ch w h sl fo ba σ.1 (k_la s l1) l2 → (∀ e, g_E w h sl e → M1 80 e = r e) → (∀ e, g_E w h sl e → (-1000 : Int) - 1000000 * (l1.length : Int) ≤ r e ∧ r e ≤ 1000 + 1000000 * (l1.length : Int)) → jm_fr [80] M M1 → k_ps sl a (k_ws s l) σ.1 = k_ps sl a (k_ws (k_la s l1) l2) r → jm_run 177 (2, [some (jm_R 67), some (jm_I a), some (jm_I ((l1.length : Int) + 1))], [], M1) Q := by
    intro l2
    induction l2 with
    | nil =>
      intro l1 hl M1 r hc h80 hrb hf hps
      rw [List.append_nil] at hl
      subst hl
      have hps : k_ps sl a (k_ws s l1) σ.1 = r := hps
      have n67 : M1 67 = M 67 := hf 67 (by decide)
      have e1 : (k_pu sl s st a σ).1 = r := by
        unfold k_pu
        rw [r3]
        exact hps
      have e2 : (k_pu sl s st a σ).2.2.2.1 = σ.2.2.2.1 + 1 := rfl
      have e3 : (k_pu sl s st a σ).2.2.2.2.1 = (if σ.2.2.2.2.1 < (l1.length : Int) then (l1.length : Int) else σ.2.2.2.2.1) := by
        unfold k_pu
        rw [r10, show ((l1.length + 1 : Nat) : Int) - 1 = (l1.length : Int) by omega]
      have e4 : (k_pu sl s st a σ).2.2.2.2.2 = (if σ.2.2.2.1 = 0 then a else if a < σ.2.2.2.2.2 then a else σ.2.2.2.2.2) := rfl
      have fin : ∀ M', jm_fr [67] M1 M' → M' 67 34 = σ.2.2.2.1 + 1 → M' 67 35 = (if σ.2.2.2.2.1 < (l1.length : Int) then (l1.length : Int) else σ.2.2.2.2.1) → M' 67 36 = (if a < M 67 36 then a else M 67 36) → (∀ i, i ∉ ([34, 35, 36] : List Int) → M' 67 i = M1 67 i) → Q none M' := by
        intro M' f1 f2 f3 f4 f5
        refine hQ M' ⟨?_, ?_, ?_, ?_⟩ ⟨?_, ?_⟩
        · intro e he
          rw [e1, f1 80 (by decide)]
          exact h80 e he
        · rw [e2]; exact f2
        · rw [e3]; exact f3
        · have z : ¬ σ.2.2.2.1 + 1 = 0 := by omega
          rw [e2, e4, f4, t4, if_neg z]
          by_cases q : σ.2.2.2.1 = 0
          · simp only [if_pos q]
            rw [if_pos (by omega)]
          · simp only [if_neg q]
        · intro c hc h67
          rw [f1 c (by simp; exact h67), hf c hc]
        · intro i hi
          rw [f5 i hi, n67]
      refine sg_177_2 ?_
      simp only [jm_st_e, reduceIte]
      rw [n67, m45, jm_up_o (show (45 : Int) ≠ 34 by omega), m45, jm_up_o (show (35 : Int) ≠ 34 by omega), t3, t2]
      refine ⟨fun q => by omega, fun _ => ⟨⟨by omega, by omega⟩, ⟨by omega, by omega⟩, fun c => ⟨⟨by omega, by omega⟩, ?_⟩, fun c => ?_⟩⟩
      · have c' : σ.2.2.2.2.1 < (l1.length : Int) := by omega
        refine ⟨fun d => ?_, fun d => ?_⟩
        · rw [jm_up_o (by omega), jm_up_o (by omega)] at d
          refine fin _ (jm_fr_tr (jm_fr_tr (jm_fr_st (by decide)) (jm_fr_st (by decide))) (jm_fr_st (by decide))) ?_ ?_ ?_ ?_
          · simp only [jm_st_e, reduceIte]
            rw [jm_up_o (by omega), jm_up_o (by omega), jm_up_s]
          · simp only [jm_st_e, reduceIte]
            rw [jm_up_o (by omega), jm_up_s, if_pos c']
            omega
          · simp only [jm_st_e, reduceIte]
            rw [jm_up_s, if_pos d]
          · intro i hi
            simp only [List.mem_cons, List.not_mem_nil, or_false, not_or] at hi
            simp only [jm_st_e, reduceIte]
            rw [jm_up_o hi.2.2, jm_up_o hi.2.1, jm_up_o hi.1]
        · rw [jm_up_o (by omega), jm_up_o (by omega)] at d
          refine fin _ (jm_fr_tr (jm_fr_tr (jm_fr_st (by decide)) (jm_fr_st (by decide))) (jm_fr_st (by decide))) ?_ ?_ ?_ ?_
          · simp only [jm_st_e, reduceIte]
            rw [jm_up_o (by omega), jm_up_o (by omega), jm_up_s]
          · simp only [jm_st_e, reduceIte]
            rw [jm_up_o (by omega), jm_up_s, if_pos c']
            omega
          · simp only [jm_st_e, reduceIte]
            rw [jm_up_s, if_neg d, jm_up_o (by omega), jm_up_o (by omega)]
          · intro i hi
            simp only [List.mem_cons, List.not_mem_nil, or_false, not_or] at hi
            simp only [jm_st_e, reduceIte]
            rw [jm_up_o hi.2.2, jm_up_o hi.2.1, jm_up_o hi.1]
      · have c' : ¬ σ.2.2.2.2.1 < (l1.length : Int) := by omega
        refine ⟨fun d => ?_, fun d => ?_⟩
        · rw [jm_up_o (by omega), jm_up_o (by omega)] at d
          refine fin _ (jm_fr_tr (jm_fr_tr (jm_fr_st (by decide)) (jm_fr_st (by decide))) (jm_fr_st (by decide))) ?_ ?_ ?_ ?_
          · simp only [jm_st_e, reduceIte]
            rw [jm_up_o (by omega), jm_up_o (by omega), jm_up_s]
          · simp only [jm_st_e, reduceIte]
            rw [jm_up_o (by omega), jm_up_s, if_neg c']
          · simp only [jm_st_e, reduceIte]
            rw [jm_up_s, if_pos d]
          · intro i hi
            simp only [List.mem_cons, List.not_mem_nil, or_false, not_or] at hi
            simp only [jm_st_e, reduceIte]
            rw [jm_up_o hi.2.2, jm_up_o hi.2.1, jm_up_o hi.1]
        · rw [jm_up_o (by omega), jm_up_o (by omega)] at d
          refine fin _ (jm_fr_tr (jm_fr_tr (jm_fr_st (by decide)) (jm_fr_st (by decide))) (jm_fr_st (by decide))) ?_ ?_ ?_ ?_
          · simp only [jm_st_e, reduceIte]
            rw [jm_up_o (by omega), jm_up_o (by omega), jm_up_s]
          · simp only [jm_st_e, reduceIte]
            rw [jm_up_o (by omega), jm_up_s, if_neg c']
          · simp only [jm_st_e, reduceIte]
            rw [jm_up_s, if_neg d, jm_up_o (by omega), jm_up_o (by omega)]
          · intro i hi
            simp only [List.mem_cons, List.not_mem_nil, or_false, not_or] at hi
            simp only [jm_st_e, reduceIte]
            rw [jm_up_o hi.2.2, jm_up_o hi.2.1, jm_up_o hi.1]
    | cons f l2 ih =>
      intro l1 hl M1 r hc h80 hrb hf hps
      have hll : l.length = l1.length + (l2.length + 1) := by rw [← hl, List.length_append, List.length_cons]
      have hget : st.reverse[l1.length + 1]? = some f := by
        rw [r1, ← hl]
        show (l1 ++ f :: l2)[l1.length]? = some f
        rw [List.getElem?_append_right (Nat.le_refl _), Nat.sub_self]
        rfl
      obtain ⟨-, q2⟩ := hat _ _ hget
      have q2 := q2 (by omega)
      rw [show ((l1.length + 1 : Nat) : Int) = (l1.length : Int) + 1 by omega] at q2
      have qp : M 85 (l1.length : Int) = k_la s l1 := by
        match hl1 : l1 with
        | [] =>
          have := (hat 0 f0 (by rw [r1]; rfl)).1
          show M 85 ((0 : Nat) : Int) = s
          rw [this, r2]
        | g :: l1' =>
          obtain ⟨l', g', hl'⟩ : ∃ l' g', l1 = l' ++ [g'] := ⟨l1.dropLast, l1.getLast (by rw [hl1]; simp), (List.dropLast_concat_getLast _).symm⟩
          rw [← hl1]
          rw [← hl1] at hl
          have hg2 : st.reverse[l1.length]? = some g' := by
            rw [r1, ← hl, hl', List.length_append, List.length_singleton]
            show ((l' ++ [g']) ++ f :: l2)[l'.length]? = some g'
            rw [List.append_assoc, List.getElem?_append_right (Nat.le_refl _), Nat.sub_self]
            rfl
          rw [(hat _ _ hg2).1, hl', k_la_app]
      have hE := hc.1.1
      obtain ⟨b1, b2, -, -⟩ := g_Eb hg.1 hE
      have hrE := hrb _ hE
      have hX1 : r_X w h sl M1 := by
        unfold r_X at hX ⊢
        rw [hf 67 (by decide), hf 68 (by decide)]
        exact hX
      have n45 : M1 67 45 = (l.length : Int) + 1 := by rw [hf 67 (by decide)]; exact m45
      have n86 : M1 86 ((l1.length : Int) + 1) = f.2.1 := by rw [hf 86 (by decide)]; exact q2
      have n85 : M1 85 (l1.length : Int) = k_la s l1 := by rw [hf 85 (by decide)]; exact qp
      have next : ∀ (v : Int), v = r f.2.1 + (if g_fr sl f.2.1 = k_la s l1 then a else -a) → jm_run 177 (2, [some (jm_R 67), some (jm_I a), some (jm_I ((l1.length : Int) + 1 + 1))], [], jm_st M1 80 f.2.1 v) Q := by
        intro v hv
        have := ih (l1 ++ [f]) (by rw [List.append_assoc]; exact hl) (jm_st M1 80 f.2.1 v) (jm_up r f.2.1 v) (by rw [k_la_app]; exact hc.2) ?_ ?_ (jm_fr_tr hf (jm_fr_st (by decide))) ?_
        · rw [show ((l1 ++ [f]).length : Int) = (l1.length : Int) + 1 by rw [List.length_append, List.length_singleton]; omega] at this
          exact this
        · intro e he
          simp only [jm_st_e, reduceIte]
          by_cases z : e = f.2.1
          · rw [z, jm_up_s, jm_up_s]
          · rw [jm_up_o z, jm_up_o z]
            exact h80 e he
        · intro e he
          rw [show ((l1 ++ [f]).length : Int) = (l1.length : Int) + 1 by rw [List.length_append, List.length_singleton]; omega]
          have := hrb e he
          by_cases z : e = f.2.1
          · rw [z, jm_up_s, hv]
            split <;> omega
          · rw [jm_up_o z]
            omega
        · rw [k_la_app, hps, hv]
          rfl
      refine sg_177_2 ?_
      rw [n45, n86]
      refine ⟨fun _ => ⟨by omega, by omega, b1, b2, by omega, by omega, ?_⟩, fun q => by omega⟩
      rw [r_125 hX1 b1 b2, show (l1.length : Int) + 1 - 1 = (l1.length : Int) by omega, n85, h80 _ hE]
      refine ⟨_, rfl, ⟨by omega, by omega⟩, by omega, by omega, fun c => ⟨⟨by omega, by omega⟩, b1, b2, ⟨by omega, by omega⟩, next _ (by rw [if_pos c])⟩, fun c => ⟨⟨by omega, by omega⟩, ⟨by omega, by omega⟩, b1, b2, ⟨by omega, by omega⟩, next _ (by rw [if_neg c])⟩⟩
  refine sc_177 (L l [] rfl M σ.1 r4 t1 (fun e he => ?_) (jm_fr_rfl _ _) rfl)
  have h1 := hcap e he
  have h2 := hbo e
  have h3 : (([] : List k_F).length : Int) = 0 := rfl
  omega
/-- how the reference's limits stand to the class's -/
def k_rl (w h : Int) (sl fo ba : Int → Int) (s t most sum rest : Int) (σ : k_S) : Prop := (∀ n, g_nd w h n → n ≠ t → σ.2.1 n = 0) ∧ ((rest = most - sum ∧ 100000 + rest ≤ σ.2.1 t) ∨ (rest = 1000000 - sum ∧ most = 100000000 ∧ σ.2.1 t = rest ∧ sum + k_ph w h sl fo ba s σ.1 ≤ 43200))
theorem p_178 {M : jm_Mem} {t most rest0 K0 : Int} {σ0 : k_S} {Q : jm_Q} (hg : g_ok w h sl) (hbo : g_bo fo ba) (hs : g_nd w h s) (ht : g_nd w h t) (hst : s ≠ t) (hX : r_X w h sl M) (hfo : M 69 = fo) (hba : M 70 = ba) (hm0 : 0 ≤ most) (hm1 : most ≤ 100000000) (hr0 : 0 ≤ rest0) (hr1 : rest0 ≤ 1000000) (hiv : k_iv w h sl fo ba K0 σ0) (hK0 : 0 ≤ K0) (hK : K0 + rest0 ≤ 100000000) (htr : x_tr w h sl σ0 M) (hrl : k_rl w h sl fo ba s t most 0 rest0 σ0) (hQ : ∀ M', x_tr w h sl (k_po w h sl fo ba s rest0 σ0).2 M' → jm_fx [80, 85, 86, 87, 88, 89] [34, 35, 36, 45] M M' → Q (some (jm_I (rest0 - (k_po w h sl fo ba s rest0 σ0).1))) M') : jm_cl 178 [jm_R 67, jm_I s, jm_I t, jm_I most] M Q := by
  have tb := g_nb hg.1 ht
  have L : ∀ (n : Nat) (rest sum : Int) (σ1 : k_S) (K1 : Int) (M1 : jm_Mem) (o5 : Option jm_V), rest = (n : Int) → sum + rest = rest0 → 0 ≤ sum → k_iv w h sl fo ba K1 σ1 → 0 ≤ K1 → K1 + rest ≤ K0 + rest0 → x_tr w h sl σ1 M1 → k_rl w h sl fo ba s t most sum rest σ1 → jm_fx [80, 85, 86, 87, 88, 89] [34, 35, 36, 45] M M1 → k_po w h sl fo ba s rest0 σ0 = k_po w h sl fo ba s rest σ1 → jm_run 178 (2, [some (jm_R 67), some (jm_I s), some (jm_I t), some (jm_I most), some (jm_I sum), o5], [], M1) Q := by
    intro n
    induction n using Nat.strongRecOn with
    | ind n ih =>
      intro rest sum σ1 K1 M1 o5 hn hsr hs0 hiv1 hK10 hK1 htr1 hrl1 hf hpo
      have hX1 := r_X_fx hf (by decide) (by decide) (by decide) hX
      have m4 : M1 69 = fo := by rw [hf.1 69 (by decide) (by decide)]; exact hfo
      have m5 : M1 70 = ba := by rw [hf.1 70 (by decide) (by decide)]; exact hba
      obtain ⟨w1, w2⟩ := id hrl1
      have hph := k_ph_b (s := s) hg hbo hiv1.1
      have stop : ∀ M2, k_po w h sl fo ba s rest σ1 = (rest, σ1) → x_tr w h sl σ1 M2 → jm_fx [80, 85, 86, 87, 88, 89] [34, 35, 36, 45] M M2 → Q (some (jm_I sum)) M2 := by
        intro M2 q h2 h3
        rw [hpo, q] at hQ
        have := hQ M2 h2 h3
        dsimp only at this
        rw [show rest0 - rest = sum by omega] at this
        exact this
      have hlt : sum < most ↔ 0 < rest := by
        rcases w2 with ⟨q1, q2⟩ | ⟨q1, q2, q3, q4⟩ <;> omega
      refine sg_178_2 ⟨fun a => ?_, fun a => stop M1 (k_po_0 (fun q => a (hlt.2 q))) htr1 hf⟩
      have hrp := hlt.1 a
      have hwt : ∀ m, g_nd w h m → (0 < σ1.2.1 m ↔ ((t < 0 ∧ 0 < M1 90 m) ∨ (¬ t < 0 ∧ m = t))) := by
        intro m hm
        by_cases q : m = t
        · subst q
          constructor
          · intro _
            exact Or.inr ⟨by omega, rfl⟩
          · intro _
            rcases w2 with ⟨q1, q2⟩ | ⟨q1, q2, q3, q4⟩ <;> omega
        · rw [w1 m hm q]
          omega
      refine p_175 (rn := σ1.1) (wt := σ1.2.1) hg hbo hX1 m4 m5 (fun e he => ⟨htr1.1 e he, by have h1 := hiv1.1 e he; have h2 := hbo e; omega⟩) hwt hs ?_ ?_
      · intro st se M2 hw hk hR hf2
        refine ⟨1, rfl, fun q => absurd q (by omega), fun _ => ?_⟩
        have hX2 := r_X_fx hf2 (by decide) (by decide) (by decide) hX1
        have htr2 : x_tr w h sl σ1 M2 := by
          obtain ⟨u1, u2, u3, u4⟩ := htr1
          exact ⟨fun e he => by rw [hf2.1 80 (by decide) (by decide)]; exact u1 e he, by rw [hf2.2 34 (by decide)]; exact u2, by rw [hf2.2 35 (by decide)]; exact u3, by rw [hf2.2 36 (by decide)]; exact u4⟩
        obtain ⟨l1, l2, l3⟩ := k_lst hg hs hbo hiv1.1 hw
        obtain ⟨f0, l, se', r1, r2, r3, r4, r5, r6, r7, r8, r9, r10, r11, r12⟩ := k_found hg hs hiv1.1 hw
        have hen : k_en st = t := by
          by_cases q : k_en st = t
          · exact q
          · have := w1 _ r7 q
            omega
        have hb := k_by_b hg hs hiv1.1 hrp hw
        have hby : k_by sl fo ba st rest σ1 = (if k_am sl fo ba σ1.1 (k_wy st) 100000000 < most - sum then k_am sl fo ba σ1.1 (k_wy st) 100000000 else most - sum) := by
          unfold k_by
          rw [hen]
          rcases w2 with ⟨q1, q2⟩ | ⟨q1, q2, q3, q4⟩
          · rw [if_neg (by omega), l3 rest (by omega), q1]
          · rw [if_neg (by omega), l3 rest (by omega), if_pos (by omega), if_pos (by omega)]
        refine p_176 hg hbo hs hX2 (by rw [hf2.1 69 (by decide) (by decide)]; exact m4) (by rw [hf2.1 70 (by decide) (by decide)]; exact m5) hiv1.1 hw hR htr2.1 ?_
        have push : jm_cl 177 [jm_R 67, jm_I (k_by sl fo ba st rest σ1)] M2 (fun r M3 => r = none ∧ jm_in (sum + k_by sl fo ba st rest σ1) ∧ jm_run 178 (2, [some (jm_R 67), some (jm_I s), some (jm_I t), some (jm_I most), some (jm_I (sum + k_by sl fo ba st rest σ1)), some (jm_I (k_by sl fo ba st rest σ1))], [], M3) Q) := by
          refine p_177 (fo := fo) (ba := ba) hg hbo hs hX2 hiv1.1 hw hR htr2 ⟨hiv1.2.2.2.1, by have := hiv1.2.2.2.2.1; omega⟩ (by omega) (by omega) ?_
          intro M3 htr3 hf3
          refine ⟨rfl, ⟨by omega, by omega⟩, ih (rest - k_by sl fo ba st rest σ1).toNat (by omega) (rest - k_by sl fo ba st rest σ1) _ _ (K1 + k_by sl fo ba st rest σ1) M3 _ (by omega) (by omega) (by omega) (k_iv_pu hg hs hiv1 hrp hw) (by omega) (by omega) htr3 ⟨?_, ?_⟩ (jm_fx_tr hf (jm_fx_tr (jm_fx_mo hf2 (by decide) (by decide)) (jm_fx_mo hf3 (by decide) (by decide)))) ?_⟩
          · intro m hm hmt
            show jm_up σ1.2.1 (k_en st) (σ1.2.1 (k_en st) - k_by sl fo ba st rest σ1) m = 0
            rw [jm_up_o (by rw [hen]; exact hmt)]
            exact w1 m hm hmt
          · have e1 : (k_pu sl s st (k_by sl fo ba st rest σ1) σ1).2.1 t = σ1.2.1 t - k_by sl fo ba st rest σ1 := by
              show jm_up σ1.2.1 (k_en st) (σ1.2.1 (k_en st) - k_by sl fo ba st rest σ1) t = _
              rw [hen, jm_up_s]
            rw [e1]
            rcases w2 with ⟨q1, q2⟩ | ⟨q1, q2, q3, q4⟩
            · exact Or.inl ⟨by omega, by omega⟩
            · refine Or.inr ⟨by omega, q2, by omega, ?_⟩
              have e2 : (k_pu sl s st (k_by sl fo ba st rest σ1) σ1).1 = k_ps sl (k_by sl fo ba st rest σ1) (k_ws s l) σ1.1 := by
                unfold k_pu
                rw [r3]
              rw [e2, k_ph_ps hg r4 r5 r11]
              omega
          · rw [hpo]
            exact k_po_s hg hs hiv1 hrp hw
        refine ⟨_, rfl, ⟨by omega, by omega⟩, fun c => ?_, fun c => ⟨⟨by omega, by omega⟩, ?_⟩⟩
        · rw [if_pos c] at hby
          rw [hby] at push
          exact push
        · rw [if_neg c] at hby
          rw [hby] at push
          exact push
      · intro hw M2 hf2
        refine ⟨0, rfl, fun _ => stop M2 (k_po_n hw) ?_ (jm_fx_tr hf (jm_fx_mo hf2 (by decide) (by decide))), fun q => absurd rfl q⟩
        obtain ⟨u1, u2, u3, u4⟩ := htr1
        exact ⟨fun e he => by rw [hf2.1 80 (by decide) (by decide)]; exact u1 e he, by rw [hf2.2 34 (by decide)]; exact u2, by rw [hf2.2 35 (by decide)]; exact u3, by rw [hf2.2 36 (by decide)]; exact u4⟩
  exact sc_178 (L rest0.toNat rest0 0 σ0 K0 M none (by omega) (by omega) (by omega) hiv hK0 (by omega) htr hrl (jm_fx_rfl _ _ _) rfl)
end Q4
