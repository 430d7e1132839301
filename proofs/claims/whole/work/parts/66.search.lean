/-! THE SEARCH FOR A WAY, as rows of places (node, edge, first direction, tried) with the latest in front -/
abbrev k_F : Type := Int × Int × Int × Int
section K2
variable (w h : Int) (sl fo ba rn wt : Int → Int)
/-- what is left of an edge from a node on -/
def k_lf (e n : Int) : Int := if g_fr sl e = n then fo e - rn e else ba e + rn e
def k_ot (e n : Int) : Int := if g_fr sl e = n then g_to w sl e else g_fr sl e
/-- the dart that is tried next leads on -/
abbrev k_on (n d : Int) (se : Int → Bool) : Prop := g_at w h sl n d ≠ -1 ∧ 0 < k_lf sl fo ba rn (g_at w h sl n d) n ∧ se (k_ot w sl (g_at w h sl n d) n) = false
def k_sn (se : Int → Bool) (n : Int) : Int → Bool := fun m => if m = n then true else se m
def k_nx : List k_F → (Int → Bool) → Option Bool × List k_F × (Int → Bool)
  | [], se => (some false, [], se)
  | (n, e, fi, tr) :: rest, se => if tr = 8 then (none, rest, se) else if k_on w h sl fo ba rn n ((fi + tr) % 8) se then (if 0 < wt (k_ot w sl (g_at w h sl n ((fi + tr) % 8)) n) then some true else none, (k_ot w sl (g_at w h sl n ((fi + tr) % 8)) n, g_at w h sl n ((fi + tr) % 8), ((fi + tr) % 8 + 5) % 8, 0) :: (n, e, fi, tr + 1) :: rest, k_sn se (k_ot w sl (g_at w h sl n ((fi + tr) % 8)) n)) else (none, (n, e, fi, tr + 1) :: rest, se)
def k_rn : Nat → List k_F → (Int → Bool) → Option (List k_F)
  | 0, _, _ => none
  | f + 1, st, se => match k_nx w h sl fo ba rn wt st se with
    | (some true, st', _) => some st'
    | (some false, _, _) => none
    | (none, st', se') => k_rn f st' se'
/-- a link: an edge that leads from a node to another one, with something left -/
def k_lk (m n e : Int) : Prop := g_E w h sl e ∧ (g_fr sl e = m ∨ g_to w sl e = m) ∧ k_ot w sl e m = n ∧ 0 < k_lf sl fo ba rn e m
def k_ok : List k_F → (Int → Bool) → Prop
  | [], _ => True
  | (n, e, fi, tr) :: rest, se => g_nd w h n ∧ se n = true ∧ (0 ≤ fi ∧ fi < 8 ∧ 0 ≤ tr ∧ tr ≤ 8) ∧ (∀ f ∈ rest, f.1 ≠ n) ∧ (∀ f, rest.head? = some f → k_lk w h sl fo ba rn f.1 n e) ∧ k_ok rest se
end K2
/-- how much is left to try -/
def k_un (se : Int → Bool) : Nat := (g_ls (fun n => se n = false) 36 0).length
def k_ms : List k_F → Int
  | [] => 0
  | f :: rest => (9 - f.2.2.2) + k_ms rest
def k_mu (st : List k_F) (se : Int → Bool) : Int := k_ms st + 9 * (k_un se : Int)
theorem k_un_go {se : Int → Bool} {x : Int} (hs : se x = false) : ∀ e, e ≤ 36 → ((x < e → (g_ls (fun n => k_sn se x n = false) 36 e).length = (g_ls (fun n => se n = false) 36 e).length) ∧ (e ≤ x → x < 36 → (g_ls (fun n => k_sn se x n = false) 36 e).length + 1 = (g_ls (fun n => se n = false) 36 e).length)) := by
  refine jm_dn ?_
  intro e he ih
  by_cases hlt : e < 36
  · have ih := ih hlt
    rw [g_ls_s (P := fun n => k_sn se x n = false) hlt, g_ls_s (P := fun n => se n = false) hlt]
    constructor
    · intro hx
      have hk : k_sn se x e = se e := by unfold k_sn; rw [if_neg (by omega)]
      rw [hk]
      have := ih.1 (by omega)
      split
      · rw [List.length_cons, List.length_cons, this]
      · exact this
    · intro hx hx2
      by_cases hq : e = x
      · subst hq
        have hk : k_sn se e e = true := by unfold k_sn; rw [if_pos rfl]
        rw [if_neg (by rw [hk]; simp), if_pos hs, List.length_cons, ih.1 (by omega)]
      · have hk : k_sn se x e = se e := by unfold k_sn; rw [if_neg hq]
        rw [hk]
        have := ih.2 (by omega) hx2
        split
        · rw [List.length_cons, List.length_cons]
          omega
        · exact this
  · rw [g_ls_z (P := fun n => k_sn se x n = false) (by omega), g_ls_z (P := fun n => se n = false) (by omega)]
    exact ⟨fun _ => rfl, fun a b => by omega⟩
theorem k_un_s {se : Int → Bool} {x : Int} (hs : se x = false) (h0 : 0 ≤ x) (h1 : x < 36) : k_un (k_sn se x) + 1 = k_un se := (k_un_go hs 0 (by omega)).2 h0 h1
theorem k_sn_s (se : Int → Bool) (n : Int) : k_sn se n n = true := if_pos rfl
theorem k_sn_t {se : Int → Bool} {n m : Int} (h : se m = true) : k_sn se n m = true := by
  unfold k_sn
  split
  · rfl
  · exact h
section K3
variable {w h : Int} {sl fo ba rn wt : Int → Int}
theorem k_ot_ne (hg : g_sd w h) {e n : Int} (he : g_E w h sl e) (hn : g_fr sl e = n ∨ g_to w sl e = n) : g_nd w h (k_ot w sl e n) ∧ k_ot w sl e n ≠ n := by
  obtain ⟨e1, e2, e3⟩ := g_ends hg he
  unfold k_ot
  by_cases q : g_fr sl e = n
  · rw [if_pos q]
    exact ⟨e2, fun r => e3 (q.trans r.symm)⟩
  · rw [if_neg q]
    exact ⟨e1, q⟩
/-- a dart that leads on is a link -/
theorem k_on_lk (hg : g_ok w h sl) {n d : Int} {se : Int → Bool} (hn : g_nd w h n) (h0 : 0 ≤ d) (h8 : d < 8) (ho : k_on w h sl fo ba rn n d se) : k_lk w h sl fo ba rn n (k_ot w sl (g_at w h sl n d) n) (g_at w h sl n d) := by
  obtain ⟨o1, o2, o3⟩ := ho
  rcases g_at_i hg hn h0 h8 with r | ⟨r1, r2⟩
  · exact absurd r o1
  · refine ⟨r1, ?_, rfl, o2⟩
    rcases r2 with ⟨q, -⟩ | ⟨q, -⟩
    · exact Or.inl q.symm
    · exact Or.inr q.symm
theorem k_ok_seen {st : List k_F} {se se' : Int → Bool} (hse : ∀ n, se n = true → se' n = true) (hk : k_ok w h sl fo ba rn st se) : k_ok w h sl fo ba rn st se' := by
  induction st with
  | nil => trivial
  | cons f rest ih =>
    obtain ⟨n, e, fi, tr⟩ := f
    obtain ⟨h1, h2, h3, h4, h5, h6⟩ := hk
    exact ⟨h1, hse n h2, h3, h4, h5, ih h6⟩
theorem k_ok_all {st : List k_F} {se : Int → Bool} (hk : k_ok w h sl fo ba rn st se) : ∀ f ∈ st, g_nd w h f.1 ∧ se f.1 = true ∧ (0 ≤ f.2.2.1 ∧ f.2.2.1 < 8 ∧ 0 ≤ f.2.2.2 ∧ f.2.2.2 ≤ 8) := by
  induction st with
  | nil => intro f hf; cases hf
  | cons g rest ih =>
    obtain ⟨n, e, fi, tr⟩ := g
    obtain ⟨h1, h2, h3, h4, h5, h6⟩ := hk
    intro f hf
    rcases List.mem_cons.1 hf with rfl | hf
    · exact ⟨h1, h2, h3⟩
    · exact ih h6 f hf
theorem k_ok_nd {st : List k_F} {se : Int → Bool} (hk : k_ok w h sl fo ba rn st se) : (st.map (fun f => f.1)).Nodup := by
  induction st with
  | nil => exact List.nodup_nil
  | cons g rest ih =>
    obtain ⟨n, e, fi, tr⟩ := g
    obtain ⟨h1, h2, h3, h4, h5, h6⟩ := hk
    rw [List.map_cons, List.nodup_cons]
    refine ⟨fun q => ?_, ih h6⟩
    obtain ⟨f, hf, he⟩ := List.mem_map.1 q
    exact h4 f hf he
/-- no more places than nodes -/
theorem k_ok_len (hg : g_sd w h) {st : List k_F} {se : Int → Bool} (hk : k_ok w h sl fo ba rn st se) : st.length ≤ 36 := by
  have h1 := b_pig (st.map (fun f => f.1)) (g_ls (fun _ => True) 36 0) (k_ok_nd hk) (fun u hu => by
    obtain ⟨f, hf, rfl⟩ := List.mem_map.1 hu
    have := g_nb hg (k_ok_all hk f hf).1
    exact (g_ls_mem 0 (by omega)).2 ⟨this.1, this.2, trivial⟩)
  have h2 : ((g_ls (fun _ => True) 36 0).length : Int) ≤ 36 - 0 := g_ls_len 0 (by omega)
  rw [List.length_map] at h1
  omega
theorem k_ms_b {st : List k_F} {se : Int → Bool} (hk : k_ok w h sl fo ba rn st se) : (st.length : Int) ≤ k_ms st := by
  induction st with
  | nil => exact Int.le_refl _
  | cons g rest ih =>
    obtain ⟨n, e, fi, tr⟩ := g
    obtain ⟨h1, h2, h3, h4, h5, h6⟩ := hk
    have := ih h6
    show ((rest.length + 1 : Nat) : Int) ≤ (9 - tr) + k_ms rest
    omega
theorem k_nx_c (n e fi tr : Int) (rest : List k_F) (se : Int → Bool) : k_nx w h sl fo ba rn wt ((n, e, fi, tr) :: rest) se = if tr = 8 then (none, rest, se) else if k_on w h sl fo ba rn n ((fi + tr) % 8) se then (if 0 < wt (k_ot w sl (g_at w h sl n ((fi + tr) % 8)) n) then some true else none, (k_ot w sl (g_at w h sl n ((fi + tr) % 8)) n, g_at w h sl n ((fi + tr) % 8), ((fi + tr) % 8 + 5) % 8, 0) :: (n, e, fi, tr + 1) :: rest, k_sn se (k_ot w sl (g_at w h sl n ((fi + tr) % 8)) n)) else (none, (n, e, fi, tr + 1) :: rest, se) := rfl
/-- a step: what is known goes on, one less is left -/
theorem k_step (hg : g_ok w h sl) {st : List k_F} {se : Int → Bool} (hk : k_ok w h sl fo ba rn st se) (hne : st ≠ []) : k_ok w h sl fo ba rn (k_nx w h sl fo ba rn wt st se).2.1 (k_nx w h sl fo ba rn wt st se).2.2 ∧ k_mu (k_nx w h sl fo ba rn wt st se).2.1 (k_nx w h sl fo ba rn wt st se).2.2 + 1 = k_mu st se := by
  match st, hne with
  | (n, e, fi, tr) :: rest, _ =>
    obtain ⟨h1, h2, h3, h4, h5, h6⟩ := hk
    rw [k_nx_c]
    by_cases q : tr = 8
    · rw [if_pos q]
      refine ⟨h6, ?_⟩
      show k_ms rest + 9 * (k_un se : Int) + 1 = ((9 - tr) + k_ms rest) + 9 * (k_un se : Int)
      omega
    · rw [if_neg q]
      by_cases o : k_on w h sl fo ba rn n ((fi + tr) % 8) se
      · rw [if_pos o]
        have hl := k_on_lk hg h1 (by omega) (by omega) o
        have hot := k_ot_ne hg.1 hl.1 hl.2.1
        have hnb := g_nb hg.1 hot.1
        refine ⟨⟨hot.1, ?_, by omega, ?_, ?_, ?_⟩, ?_⟩
        · exact k_sn_s _ _
        · intro f hf
          rcases List.mem_cons.1 hf with rfl | hf
          · exact fun r => hot.2 r.symm
          · intro r
            have := (k_ok_all h6 f hf).2.1
            rw [r, o.2.2] at this
            cases this
        · intro f hf
          injection hf with hf
          rw [← hf]
          exact hl
        · refine ⟨h1, ?_, by omega, h4, h5, ?_⟩
          · exact k_sn_t h2
          · exact k_ok_seen (fun m hm => k_sn_t hm) h6
        · have hu := k_un_s o.2.2 hnb.1 hnb.2
          show ((9 - 0) + ((9 - (tr + 1)) + k_ms rest)) + 9 * (k_un (k_sn se _) : Int) + 1 = ((9 - tr) + k_ms rest) + 9 * (k_un se : Int)
          omega
      · rw [if_neg o]
        refine ⟨⟨h1, h2, by omega, h4, h5, h6⟩, ?_⟩
        show ((9 - (tr + 1)) + k_ms rest) + 9 * (k_un se : Int) + 1 = ((9 - tr) + k_ms rest) + 9 * (k_un se : Int)
        omega
end K3
/-- a search begins -/
def k_0 (s : Int) : List k_F × (Int → Bool) := ([(s, -1, 0, 0)], fun m => decide (m = s))
theorem k_0_un {s : Int} (h0 : 0 ≤ s) (h1 : s < 36) : k_un (fun m => decide (m = s)) = 35 := by
  have h2 := k_un_s (se := fun _ => false) (x := s) rfl h0 h1
  have h3 : k_sn (fun _ => false) s = fun m => decide (m = s) := by
    funext m
    unfold k_sn
    by_cases q : m = s
    · rw [if_pos q, decide_eq_true q]
    · rw [if_neg q, decide_eq_false q]
  have h4 : k_un (fun _ => false) = 36 := by decide +kernel
  rw [h3, h4] at h2
  omega
/-- the way that a search finds, if there is one -/
def k_way (w h : Int) (sl fo ba rn wt : Int → Int) (s : Int) : Option (List k_F) := k_rn w h sl fo ba rn wt 326 (k_0 s).1 (k_0 s).2
