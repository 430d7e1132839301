/-! WAYS: what flows along them -/
/-- links of a way from a node on: an edge, the node that it is gone from -/
def k_ws (p : Int) : List k_F → List (Int × Int)
  | [] => []
  | f :: l => (f.2.1, p) :: k_ws f.1 l
def k_la (p : Int) : List k_F → Int
  | [] => p
  | f :: l => k_la f.1 l
theorem k_la_app (p : Int) (l : List k_F) (f : k_F) : k_la p (l ++ [f]) = f.1 := by
  induction l generalizing p with
  | nil => rfl
  | cons g l ih => exact ih g.1
theorem k_ws_app (p : Int) (l : List k_F) (f : k_F) : k_ws p (l ++ [f]) = k_ws p l ++ [(f.2.1, k_la p l)] := by
  induction l generalizing p with
  | nil => rfl
  | cons g l ih =>
    show (g.2.1, p) :: k_ws g.1 (l ++ [f]) = (g.2.1, p) :: k_ws g.1 l ++ [(f.2.1, k_la g.1 l)]
    rw [ih]
    rfl
theorem k_ws_len (p : Int) (l : List k_F) : (k_ws p l).length = l.length := by
  induction l generalizing p with
  | nil => rfl
  | cons g l ih =>
    show ((g.2.1, p) :: k_ws g.1 l).length = _
    rw [List.length_cons, ih, List.length_cons]
section V1
variable {w h : Int} {sl fo ba rn wt : Int → Int}
def k_ch (w h : Int) (sl fo ba rn : Int → Int) (p : Int) : List k_F → Prop
  | [] => True
  | f :: l => k_lk w h sl fo ba rn p f.1 f.2.1 ∧ k_ch w h sl fo ba rn f.1 l
theorem k_ch_app {p : Int} {l : List k_F} {f : k_F} (hc : k_ch w h sl fo ba rn p l) (hl : k_lk w h sl fo ba rn (k_la p l) f.1 f.2.1) : k_ch w h sl fo ba rn p (l ++ [f]) := by
  induction l generalizing p with
  | nil => exact ⟨hl, trivial⟩
  | cons g l ih => exact ⟨hc.1, ih hc.2 hl⟩
/-- rows from below: a chain of links, all nodes apart -/
theorem k_ok_ch {st : List k_F} {se : Int → Bool} (hk : k_ok w h sl fo ba rn st se) (hne : st ≠ []) : ∃ f0 l, st.reverse = f0 :: l ∧ k_ch w h sl fo ba rn f0.1 l ∧ (f0 :: l).map (fun f => f.1) = (st.map (fun f => f.1)).reverse ∧ k_la f0.1 l = (st.head hne).1 := by
  induction st with
  | nil => exact absurd rfl hne
  | cons f rest ih =>
    obtain ⟨n, e, fi, tr⟩ := f
    obtain ⟨h1, h2, h3, h4, h5, h6⟩ := hk
    cases rest with
    | nil => exact ⟨(n, e, fi, tr), [], rfl, trivial, rfl, rfl⟩
    | cons g rest =>
      obtain ⟨f0, l, i1, i2, i3, i4⟩ := ih h6 (by simp)
      have i4 : k_la f0.1 l = g.1 := i4
      refine ⟨f0, l ++ [(n, e, fi, tr)], ?_, ?_, ?_, ?_⟩
      · rw [List.reverse_cons, i1]
        rfl
      · refine k_ch_app i2 ?_
        rw [i4]
        exact h5 g rfl
      · rw [List.map_cons (l := g :: rest), List.reverse_cons, ← i3]
        simp
      · rw [k_la_app]
        rfl
/-- what the memory holds of the rows, from below -/
theorem k_rs_at {nd ed fi tr : Int → Int} : ∀ {st : List k_F}, k_rs nd ed fi tr st → ∀ (i : Nat) (f : k_F), st.reverse[i]? = some f → nd (i : Int) = f.1 ∧ (1 ≤ i → ed (i : Int) = f.2.1)
  | [], _, i, f, hi => by cases hi
  | g :: rest, hr, i, f, hi => by
    obtain ⟨r1, r2, r3, r4, r5⟩ := hr
    rw [List.reverse_cons] at hi
    by_cases q : i < rest.length
    · rw [List.getElem?_append_left (by rw [List.length_reverse]; exact q)] at hi
      exact k_rs_at r5 i f hi
    · rw [List.getElem?_append_right (by rw [List.length_reverse]; omega), List.length_reverse] at hi
      by_cases q2 : i - rest.length = 0
      · rw [q2] at hi
        injection hi with hi
        have hil : i = rest.length := by omega
        rw [hil, ← hi]
        refine ⟨r1, fun q3 => r2 ?_⟩
        intro q4
        rw [q4] at q3
        simp at q3
      · obtain ⟨j, hj⟩ : ∃ j, i - rest.length = j + 1 := ⟨i - rest.length - 1, by omega⟩
        rw [hj] at hi
        cases hi
/-- what a search that found a way ends with -/
theorem k_rn_of (hg : g_ok w h sl) {s : Int} : ∀ (fu : Nat) (st : List k_F) (se : Int → Bool) (st' : List k_F), k_ok w h sl fo ba rn st se → (∀ f, st.getLast? = some f → f.1 = s) → k_rn w h sl fo ba rn wt fu st se = some st' → (∃ se', k_ok w h sl fo ba rn st' se') ∧ (∀ f, st'.getLast? = some f → f.1 = s) ∧ ∃ f g rest, st' = f :: g :: rest ∧ 0 < wt f.1 := by
  intro fu
  induction fu with
  | zero => intro st se st' _ _ hr; cases hr
  | succ fu ih =>
    intro st se st' hk hb hr
    match st, hk, hb, hr with
    | [], hk, hb, hr => cases hr
    | (n, e, fi, tr) :: rest, hk, hb, hr =>
      obtain ⟨s1, s2⟩ := k_step (wt := wt) hg hk (by simp)
      have hr : (match k_nx w h sl fo ba rn wt ((n, e, fi, tr) :: rest) se with
        | (some true, st', _) => some st'
        | (some false, _, _) => none
        | (none, st', se') => k_rn w h sl fo ba rn wt fu st' se') = some st' := hr
      rw [k_nx_c] at hr s1 s2
      by_cases c : tr = 8
      · rw [if_pos c] at hr s1 s2
        dsimp only at hr s1 s2
        refine ih rest se st' s1 ?_ hr
        intro f hf
        cases rest with
        | nil => cases hf
        | cons g rest => exact hb f hf
      · rw [if_neg c] at hr s1 s2
        have hb1 : ∀ f, ((n, e, fi, tr + 1) :: rest).getLast? = some f → f.1 = s := by
          intro f hf
          cases rest with
          | nil =>
            have hf : some (n, e, fi, tr + 1) = some f := hf
            injection hf with hf
            rw [← hf]
            exact hb (n, e, fi, tr) rfl
          | cons g rest => exact hb f hf
        by_cases o : k_on w h sl fo ba rn n ((fi + tr) % 8) se
        · rw [if_pos o] at hr s1 s2
          dsimp only at hr s1 s2
          by_cases z : 0 < wt (k_ot w sl (g_at w h sl n ((fi + tr) % 8)) n)
          · rw [if_pos z] at hr
            have hr : some ((k_ot w sl (g_at w h sl n ((fi + tr) % 8)) n, g_at w h sl n ((fi + tr) % 8), ((fi + tr) % 8 + 5) % 8, 0) :: (n, e, fi, tr + 1) :: rest) = some st' := hr
            injection hr with hr
            rw [← hr]
            exact ⟨⟨_, s1⟩, hb1, _, _, _, rfl, z⟩
          · rw [if_neg z] at hr
            exact ih _ _ st' s1 hb1 hr
        · rw [if_neg o] at hr s1 s2
          dsimp only at hr s1 s2
          exact ih _ _ st' s1 hb1 hr
theorem k_way_of (hg : g_ok w h sl) {s : Int} (hs : g_nd w h s) {st : List k_F} (hw : k_way w h sl fo ba rn wt s = some st) : (∃ se', k_ok w h sl fo ba rn st se') ∧ (∀ f, st.getLast? = some f → f.1 = s) ∧ ∃ f g rest, st = f :: g :: rest ∧ 0 < wt f.1 := by
  refine k_rn_of hg 326 (k_0 s).1 (k_0 s).2 st ⟨hs, decide_eq_true rfl, by omega, fun f hf => (by cases hf), fun f hf => (by cases hf), trivial⟩ ?_ hw
  intro f hf
  have hf : some ((s, -1, 0, 0) : k_F) = some f := hf
  injection hf with hf
  rw [← hf]
/-- the least of all that is left on links, and a number -/
def k_am (sl fo ba rn : Int → Int) : List (Int × Int) → Int → Int
  | [], a => a
  | x :: l, a => k_am sl fo ba rn l (if k_lf sl fo ba rn x.1 x.2 < a then k_lf sl fo ba rn x.1 x.2 else a)
theorem k_am_le : ∀ (l : List (Int × Int)) (a : Int), k_am sl fo ba rn l a ≤ a ∧ ∀ x ∈ l, k_am sl fo ba rn l a ≤ k_lf sl fo ba rn x.1 x.2
  | [], a => ⟨Int.le_refl _, fun x hx => by cases hx⟩
  | y :: l, a => by
    have ih := k_am_le l (if k_lf sl fo ba rn y.1 y.2 < a then k_lf sl fo ba rn y.1 y.2 else a)
    show k_am sl fo ba rn l _ ≤ a ∧ ∀ x ∈ y :: l, k_am sl fo ba rn l _ ≤ k_lf sl fo ba rn x.1 x.2
    generalize hm : (if k_lf sl fo ba rn y.1 y.2 < a then k_lf sl fo ba rn y.1 y.2 else a) = m at ih ⊢
    have hma : m ≤ a ∧ m ≤ k_lf sl fo ba rn y.1 y.2 := by
      rw [← hm]
      split <;> omega
    refine ⟨by omega, fun x hx => ?_⟩
    rcases List.mem_cons.1 hx with rfl | hx
    · omega
    · exact ih.2 x hx
theorem k_am_pos : ∀ (l : List (Int × Int)) (a : Int), 0 < a → (∀ x ∈ l, 0 < k_lf sl fo ba rn x.1 x.2) → 0 < k_am sl fo ba rn l a
  | [], a, ha, _ => ha
  | y :: l, a, ha, hl => by
    refine k_am_pos l _ ?_ (fun x hx => hl x (List.mem_cons_of_mem _ hx))
    have := hl y List.mem_cons_self
    split <;> omega
theorem k_am_min : ∀ (l : List (Int × Int)) (a b : Int), k_am sl fo ba rn l (if b < a then b else a) = if k_am sl fo ba rn l b < a then k_am sl fo ba rn l b else a
  | [], a, b => rfl
  | y :: l, a, b => by
    show k_am sl fo ba rn l (if k_lf sl fo ba rn y.1 y.2 < (if b < a then b else a) then k_lf sl fo ba rn y.1 y.2 else (if b < a then b else a)) = if k_am sl fo ba rn l (if k_lf sl fo ba rn y.1 y.2 < b then k_lf sl fo ba rn y.1 y.2 else b) < a then k_am sl fo ba rn l (if k_lf sl fo ba rn y.1 y.2 < b then k_lf sl fo ba rn y.1 y.2 else b) else a
    rw [← k_am_min l a (if k_lf sl fo ba rn y.1 y.2 < b then k_lf sl fo ba rn y.1 y.2 else b)]
    congr 1
    generalize k_lf sl fo ba rn y.1 y.2 = c
    by_cases h1 : b < a
    · rw [if_pos h1]
      by_cases h2 : c < b
      · rw [if_pos h2, if_pos (by omega)]
      · rw [if_neg h2, if_pos h1]
    · rw [if_neg h1]
      by_cases h2 : c < b
      · rw [if_pos h2]
      · rw [if_neg h2, if_neg (by omega), if_neg h1]
/-- so much more flows along -/
def k_ps (sl : Int → Int) (a : Int) : List (Int × Int) → (Int → Int) → (Int → Int)
  | [], r => r
  | x :: l, r => k_ps sl a l (jm_up r x.1 (r x.1 + (if g_fr sl x.1 = x.2 then a else -a)))
theorem k_ps_o {a : Int} : ∀ {l : List (Int × Int)} {r : Int → Int} {e : Int}, (∀ x ∈ l, x.1 ≠ e) → k_ps sl a l r e = r e
  | [], r, e, _ => rfl
  | y :: l, r, e, hl => by
    show k_ps sl a l _ e = r e
    rw [k_ps_o (fun x hx => hl x (List.mem_cons_of_mem _ hx)), jm_up_o (fun q => hl y List.mem_cons_self q.symm)]
theorem k_ps_i {a : Int} : ∀ {l : List (Int × Int)} {r : Int → Int} {x : Int × Int}, (l.map (fun x => x.1)).Nodup → x ∈ l → k_ps sl a l r x.1 = r x.1 + (if g_fr sl x.1 = x.2 then a else -a)
  | [], r, x, _, hx => by cases hx
  | y :: l, r, x, hn, hx => by
    rw [List.map_cons, List.nodup_cons] at hn
    show k_ps sl a l _ x.1 = _
    rcases List.mem_cons.1 hx with rfl | hx
    · rw [k_ps_o (fun z hz q => hn.1 (List.mem_map.2 ⟨z, hz, q⟩)), jm_up_s]
    · have hne : x.1 ≠ y.1 := fun q => hn.1 (List.mem_map.2 ⟨x, hx, q⟩)
      rw [k_ps_i hn.2 hx, jm_up_o hne]
/-- links of a chain: their edges are apart, none but the first is at the node where it begins -/
theorem k_lk_ends (hg : g_sd w h) {m n e : Int} (hl : k_lk w h sl fo ba rn m n e) : (g_fr sl e = m ∧ g_to w sl e = n) ∨ (g_to w sl e = m ∧ g_fr sl e = n) := by
  obtain ⟨h1, h2, h3, h4⟩ := hl
  unfold k_ot at h3
  by_cases q : g_fr sl e = m
  · rw [if_pos q] at h3
    exact Or.inl ⟨q, h3⟩
  · rw [if_neg q] at h3
    exact Or.inr ⟨h2.resolve_left q, h3⟩
theorem k_ch_far (hg : g_sd w h) {v : Int} : ∀ {p : Int} {l : List k_F}, k_ch w h sl fo ba rn p l → p ≠ v → (∀ f ∈ l, f.1 ≠ v) → ∀ x ∈ k_ws p l, g_fr sl x.1 ≠ v ∧ g_to w sl x.1 ≠ v
  | p, [], _, _, _, x, hx => by cases hx
  | p, f :: l, hc, hp, hl, x, hx => by
    have hf := hl f List.mem_cons_self
    rcases List.mem_cons.1 hx with rfl | hx
    · rcases k_lk_ends hg hc.1 with ⟨q1, q2⟩ | ⟨q1, q2⟩
      · exact ⟨fun r => hp (q1.symm.trans r), fun r => hf (q2.symm.trans r)⟩
      · exact ⟨fun r => hf (q2.symm.trans r), fun r => hp (q1.symm.trans r)⟩
    · exact k_ch_far hg hc.2 hf (fun g hg => hl g (List.mem_cons_of_mem _ hg)) x hx
theorem k_ch_nd (hg : g_sd w h) : ∀ {p : Int} {l : List k_F}, k_ch w h sl fo ba rn p l → (p :: l.map (fun f => f.1)).Nodup → ((k_ws p l).map (fun x => x.1)).Nodup
  | p, [], _, _ => List.nodup_nil
  | p, f :: l, hc, hn => by
    rw [List.map_cons, List.nodup_cons] at hn
    obtain ⟨hp, hn⟩ := hn
    show (((f.2.1, p) :: k_ws f.1 l).map (fun x => x.1)).Nodup
    rw [List.map_cons, List.nodup_cons]
    refine ⟨fun q => ?_, k_ch_nd hg hc.2 hn⟩
    obtain ⟨x, hx, he⟩ := List.mem_map.1 q
    have hfp : f.1 ≠ p := fun r => hp (by rw [r]; exact List.mem_cons_self)
    have hlp : ∀ g ∈ l, g.1 ≠ p := fun g hg r => hp (List.mem_cons_of_mem _ (List.mem_map.2 ⟨g, hg, r⟩))
    have := k_ch_far hg hc.2 hfp hlp x hx
    have he : x.1 = f.2.1 := he
    rw [he] at this
    rcases k_lk_ends hg hc.1 with ⟨q1, q2⟩ | ⟨q1, q2⟩
    · exact this.1 q1
    · exact this.2 q1
theorem k_ch_E : ∀ {p : Int} {l : List k_F}, k_ch w h sl fo ba rn p l → ∀ x ∈ k_ws p l, g_E w h sl x.1 ∧ 0 < k_lf sl fo ba rn x.1 x.2 ∧ (g_fr sl x.1 = x.2 ∨ g_to w sl x.1 = x.2)
  | p, [], _, x, hx => by cases hx
  | p, f :: l, hc, x, hx => by
    rcases List.mem_cons.1 hx with rfl | hx
    · exact ⟨hc.1.1, hc.1.2.2.2, hc.1.2.1⟩
    · exact k_ch_E hc.2 x hx
/-- what flows fits what edges bear -/
def k_cap (w h : Int) (sl fo ba rn : Int → Int) : Prop := ∀ e, g_E w h sl e → -(ba e) ≤ rn e ∧ rn e ≤ fo e
theorem k_cap_ps {l : List (Int × Int)} {a : Int} (hn : (l.map (fun x => x.1)).Nodup) (h0 : 0 ≤ a) (hl : ∀ x ∈ l, a ≤ k_lf sl fo ba rn x.1 x.2) (hc : k_cap w h sl fo ba rn) : k_cap w h sl fo ba (k_ps sl a l rn) := by
  intro e he
  have hce := hc e he
  by_cases q : ∃ x ∈ l, x.1 = e
  · obtain ⟨x, hx, rfl⟩ := q
    rw [k_ps_i hn hx]
    have := hl x hx
    unfold k_lf at this
    split
    · rename_i r
      rw [if_pos r] at this
      omega
    · rename_i r
      rw [if_neg r] at this
      omega
  · rw [k_ps_o (fun x hx r => q ⟨x, hx, r⟩)]
    exact hce
end V1
