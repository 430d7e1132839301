/-! POURING: the reference -/
def g_sm (f : Int → Int) : List Int → Int
  | [] => 0
  | a :: l => f a + g_sm f l
theorem g_sm_cg {f f' : Int → Int} : ∀ {l : List Int}, (∀ e ∈ l, f' e = f e) → g_sm f' l = g_sm f l
  | [], _ => rfl
  | a :: l, h => by
    show f' a + g_sm f' l = f a + g_sm f l
    rw [h a List.mem_cons_self, g_sm_cg (fun e he => h e (List.mem_cons_of_mem _ he))]
theorem g_sm_one {f f' : Int → Int} {x d : Int} : ∀ {l : List Int}, l.Nodup → x ∈ l → (∀ e ∈ l, e ≠ x → f' e = f e) → f' x = f x - d → g_sm f' l = g_sm f l - d
  | [], _, hx, _, _ => by cases hx
  | a :: l, hn, hx, h, hd => by
    rw [List.nodup_cons] at hn
    show f' a + g_sm f' l = f a + g_sm f l - d
    rcases List.mem_cons.1 hx with rfl | hx
    · rw [hd, g_sm_cg (fun e he => h e (List.mem_cons_of_mem _ he) (fun q => hn.1 (q ▸ he)))]
      omega
    · have ha : a ≠ x := fun q => hn.1 (q ▸ hx)
      rw [h a List.mem_cons_self ha, g_sm_one hn.2 hx (fun e he => h e (List.mem_cons_of_mem _ he)) hd]
      omega
theorem g_sm_b {f : Int → Int} {B : Int} : ∀ {l : List Int}, (∀ e ∈ l, 0 ≤ f e ∧ f e ≤ B) → 0 ≤ g_sm f l ∧ g_sm f l ≤ B * (l.length : Int)
  | [], _ => by
    show (0 : Int) ≤ 0 ∧ (0 : Int) ≤ B * ((0 : Nat) : Int)
    omega
  | a :: l, h => by
    have h1 := h a List.mem_cons_self
    have h2 := g_sm_b (f := f) (B := B) (l := l) (fun e he => h e (List.mem_cons_of_mem _ he))
    show 0 ≤ f a + g_sm f l ∧ f a + g_sm f l ≤ B * ((l.length + 1 : Nat) : Int)
    rw [show B * ((l.length + 1 : Nat) : Int) = B * (l.length : Int) + B by rw [Int.natCast_add, Int.mul_add]; simp]
    omega
/-- what may still go out of a node -/
def k_ph (w h : Int) (sl fo ba : Int → Int) (s : Int) (rn : Int → Int) : Int := g_sm (fun e => (if g_fr sl e = s then fo e - rn e else 0) + (if g_to w sl e = s then ba e + rn e else 0)) (g_el w h sl)
section Q3
variable {w h : Int} {sl fo ba : Int → Int} {σ : k_S} {s : Int} {st : List k_F}
theorem k_ph_b (hg : g_ok w h sl) (hbo : g_bo fo ba) {rn : Int → Int} (hcap : k_cap w h sl fo ba rn) : 0 ≤ k_ph w h sl fo ba s rn ∧ k_ph w h sl fo ba s rn ≤ 43200 := by
  have hl := g_el_len (w := w) (h := h) (sl := sl)
  have := g_sm_b (f := fun e => (if g_fr sl e = s then fo e - rn e else 0) + (if g_to w sl e = s then ba e + rn e else 0)) (B := 400) (l := g_el w h sl) (fun e he => by
    have h1 := hcap e ((g_el_mem hg.1).1 he)
    have h2 := hbo e
    split <;> split <;> omega)
  unfold k_ph
  omega
theorem k_ph_ps (hg : g_ok w h sl) {rn : Int → Int} {l : List k_F} {a : Int} (hc : k_ch w h sl fo ba rn s l) (hn : (s :: l.map (fun f => f.1)).Nodup) (hl : l ≠ []) : k_ph w h sl fo ba s (k_ps sl a (k_ws s l) rn) = k_ph w h sl fo ba s rn - a := by
  match l, hc, hn, hl with
  | f :: l, hc, hn, _ =>
    have hnd := k_ch_nd hg.1 hc hn
    have hE := hc.1.1
    rw [List.map_cons, List.nodup_cons] at hn
    have hfs : f.1 ≠ s := fun q => hn.1 (by rw [q]; exact List.mem_cons_self)
    have hls : ∀ g ∈ l, g.1 ≠ s := fun g hg q => hn.1 (List.mem_cons_of_mem _ (List.mem_map.2 ⟨g, hg, q⟩))
    have far := k_ch_far hg.1 hc.2 hfs hls
    have e3 := (g_ends hg.1 hE).2.2
    unfold k_ph
    refine g_sm_one (x := f.2.1) (g_ls_nd 0 (by omega)) ((g_el_mem hg.1).2 hE) ?_ ?_
    · intro e he hne
      by_cases q : ∃ x ∈ k_ws f.1 l, x.1 = e
      · obtain ⟨x, hx, rfl⟩ := q
        have := far x hx
        rw [if_neg this.1, if_neg this.2, if_neg this.1, if_neg this.2]
      · rw [k_ps_o (l := k_ws s (f :: l)) (r := rn) (e := e)]
        intro x hx r
        rcases List.mem_cons.1 hx with rfl | hx
        · exact hne r.symm
        · exact q ⟨x, hx, r⟩
    · have hv := k_ps_i (sl := sl) (a := a) (r := rn) (x := (f.2.1, s)) hnd List.mem_cons_self
      dsimp only at hv
      rw [hv]
      rcases k_lk_ends hg.1 hc.1 with ⟨q1, q2⟩ | ⟨q1, q2⟩
      · have n1 : ¬ g_to w sl f.2.1 = s := fun r => e3 (q1.trans r.symm)
        simp only [if_pos q1, if_neg n1]
        omega
      · have n1 : ¬ g_fr sl f.2.1 = s := fun r => e3 (r.trans q1.symm)
        simp only [if_pos q1, if_neg n1]
        omega
/-- the least on a way -/
theorem k_lst (hg : g_ok w h sl) (hs : g_nd w h s) (hbo : g_bo fo ba) (hcap : k_cap w h sl fo ba σ.1) (hw : k_way w h sl fo ba σ.1 σ.2.1 s = some st) : 0 < k_am sl fo ba σ.1 (k_wy st) 100000000 ∧ k_am sl fo ba σ.1 (k_wy st) 100000000 ≤ 200 ∧ ∀ x, x ≤ 100000000 → k_am sl fo ba σ.1 (k_wy st) x = if k_am sl fo ba σ.1 (k_wy st) 100000000 < x then k_am sl fo ba σ.1 (k_wy st) 100000000 else x := by
  obtain ⟨f0, l, se, r1, r2, r3, r4, r5, r6, r7, r8, r9, r10, r11, r12⟩ := k_found hg hs hcap hw
  refine ⟨?_, ?_, ?_⟩
  · refine k_am_pos _ _ (by omega) ?_
    intro x hx
    rw [r3] at hx
    exact (k_ch_E r4 x hx).2.1
  · have hle := (k_am_le (sl := sl) (fo := fo) (ba := ba) (rn := σ.1) (k_wy st) 100000000).2
    match l, r3, r4, r11 with
    | f :: l, r3, r4, _ =>
      have hx : (f.2.1, s) ∈ k_wy st := by rw [r3]; exact List.mem_cons_self
      have h1 := hle _ hx
      have hE := r4.1.1
      have h2 := hcap _ hE
      have h3 := hbo f.2.1
      unfold k_lf at h1
      dsimp only at h1
      split at h1 <;> omega
  · intro x hx
    rw [← k_am_min]
    congr 1
    rw [if_neg (by omega)]
/-- what the reference's memory holds of what flows -/
def x_tr (w h : Int) (sl : Int → Int) (σ : k_S) (M : jm_Mem) : Prop := (∀ e, g_E w h sl e → M 80 e = σ.1 e) ∧ M 67 34 = σ.2.2.2.1 ∧ M 67 35 = σ.2.2.2.2.1 ∧ M 67 36 = (if σ.2.2.2.1 = 0 then 100000000 else σ.2.2.2.2.2)
theorem p_176 {M : jm_Mem} {se : Int → Bool} {Q : jm_Q} (hg : g_ok w h sl) (hbo : g_bo fo ba) (hs : g_nd w h s) (hX : r_X w h sl M) (hfo : M 69 = fo) (hba : M 70 = ba) (hcap : k_cap w h sl fo ba σ.1) (hw : k_way w h sl fo ba σ.1 σ.2.1 s = some st) (hR : x_sr st se M) (ht : ∀ e, g_E w h sl e → M 80 e = σ.1 e) (hQ : Q (some (jm_I (k_am sl fo ba σ.1 (k_wy st) 100000000))) M) : jm_cl 176 [jm_R 67] M Q := by
  obtain ⟨f0, l, se', r1, r2, r3, r4, r5, r6, r7, r8, r9, r10, r11, r12⟩ := k_found hg hs hcap hw
  have hln := k_ok_len hg.1 r9
  have hat := k_rs_at hR.1
  have m45 : M 67 45 = (l.length : Int) + 1 := by rw [hR.2.1, r10]; omega
  rw [r3] at hQ
  have L : ∀ (l2 l1 : List k_F), l1 ++ l2 = l → ∀ (x : Int) (o3 : Option jm_V), k_ch w h sl fo ba σ.1 (k_la s l1) l2 → k_am sl fo ba σ.1 (k_ws s l) 100000000 = k_am sl fo ba σ.1 (k_ws (k_la s l1) l2) x → jm_run 176 (4, [some (jm_R 67), some (jm_I x), some (jm_I ((l1.length : Int) + 1)), o3], [], M) Q := by
    intro l2
    induction l2 with
    | nil =>
      intro l1 hl x o3 hc hax
      rw [List.append_nil] at hl
      have hax : k_am sl fo ba σ.1 (k_ws s l) 100000000 = x := hax
      refine sg_176_4 ⟨fun q => by rw [m45, hl] at q; omega, fun _ => ?_⟩
      rw [← hax]
      exact hQ
    | cons f l2 ih =>
      intro l1 hl x o3 hc hax
      have hll : l.length = l1.length + (l2.length + 1) := by rw [← hl, List.length_append, List.length_cons]
      have hget : st.reverse[l1.length + 1]? = some f := by
        rw [r1, ← hl]
        show (l1 ++ f :: l2)[l1.length]? = some f
        rw [List.getElem?_append_right (Nat.le_refl _), Nat.sub_self]
        rfl
      obtain ⟨-, q2⟩ := hat _ _ hget
      have q2 := q2 (by omega)
      rw [show ((l1.length + 1 : Nat) : Int) = (l1.length : Int) + 1 by omega] at q2
      have qp : M 85 (l1.length : Int) = k_la s l1 := by
        match hl1 : l1 with
        | [] =>
          have := (hat 0 f0 (by rw [r1]; rfl)).1
          show M 85 ((0 : Nat) : Int) = s
          rw [this, r2]
        | g :: l1' =>
          obtain ⟨l', g', hl'⟩ : ∃ l' g', l1 = l' ++ [g'] := ⟨l1.dropLast, l1.getLast (by rw [hl1]; simp), (List.dropLast_concat_getLast _).symm⟩
          rw [← hl1]
          rw [← hl1] at hl
          have hg2 : st.reverse[l1.length]? = some g' := by
            rw [r1, ← hl, hl', List.length_append, List.length_singleton]
            show ((l' ++ [g']) ++ f :: l2)[l'.length]? = some g'
            rw [List.append_assoc, List.getElem?_append_right (Nat.le_refl _), Nat.sub_self]
            rfl
          rw [(hat _ _ hg2).1, hl', k_la_app]
      have hE := hc.1.1
      obtain ⟨b1, b2, -, -⟩ := g_Eb hg.1 hE
      have hcE := hcap _ hE
      have hbE := hbo f.2.1
      have hax : k_am sl fo ba σ.1 (k_ws s l) 100000000 = k_am sl fo ba σ.1 (k_ws f.1 l2) (if k_lf sl fo ba σ.1 f.2.1 (k_la s l1) < x then k_lf sl fo ba σ.1 f.2.1 (k_la s l1) else x) := hax
      have next : ∀ (y : Int), y = (if k_lf sl fo ba σ.1 f.2.1 (k_la s l1) < x then k_lf sl fo ba σ.1 f.2.1 (k_la s l1) else x) → ∀ o3, jm_run 176 (4, [some (jm_R 67), some (jm_I y), some (jm_I ((l1.length : Int) + 1 + 1)), o3], [], M) Q := by
        intro y hy o3
        have := ih (l1 ++ [f]) (by rw [List.append_assoc]; exact hl) y o3 (by rw [k_la_app]; exact hc.2) (by rw [k_la_app, hy]; exact hax)
        rw [show ((l1 ++ [f]).length : Int) = (l1.length : Int) + 1 by rw [List.length_append, List.length_singleton]; omega] at this
        exact this
      refine sg_176_4 ?_
      rw [m45, q2]
      refine ⟨fun _ => ⟨by omega, by omega, by omega, by omega, ?_⟩, fun q => by omega⟩
      rw [r_125 hX b1 b2, show (l1.length : Int) + 1 - 1 = (l1.length : Int) by omega, qp]
      refine ⟨_, rfl, ⟨by omega, by omega⟩, by omega, by omega, fun c => ?_, fun c => ?_⟩
      · rw [e_171 b1 b2 (by rw [hfo, hba]; exact hbo) (by rw [ht _ hE]; omega), hfo, hba, ht _ hE, if_neg (by omega)]
        have hlf : k_lf sl fo ba σ.1 f.2.1 (k_la s l1) = fo f.2.1 - σ.1 f.2.1 := if_pos c
        refine ⟨_, rfl, fun d => ⟨⟨by omega, by omega⟩, next _ ?_ _⟩, fun d => ⟨⟨by omega, by omega⟩, next _ ?_ _⟩⟩
        · rw [hlf, if_pos d]
        · rw [hlf, if_neg d]
      · rw [e_171 b1 b2 (by rw [hfo, hba]; exact hbo) (by rw [ht _ hE]; omega), hfo, hba, ht _ hE, if_pos rfl]
        have hlf : k_lf sl fo ba σ.1 f.2.1 (k_la s l1) = ba f.2.1 + σ.1 f.2.1 := if_neg c
        refine ⟨_, rfl, fun d => ⟨⟨by omega, by omega⟩, next _ ?_ _⟩, fun d => ⟨⟨by omega, by omega⟩, next _ ?_ _⟩⟩
        · rw [hlf, if_pos d]
        · rw [hlf, if_neg d]
  exact sc_176 (L l [] rfl _ _ r4 rfl)
end Q3
