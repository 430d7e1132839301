/-! THE LAW'S START: memory and addresses -/
def jl_ad (a9 a10 adS : Nat → Nat) (q b : Nat) (c : Nat) : Nat := bif Nat.blt c 67 then a9 c else bif Nat.blt c 94 then a10 c else bif Nat.beq c 94 then q else bif Nat.beq c 998 then b else adS c
def jl_M (M9 M10 : jm_Mem) (scr : Int → Int) : jm_Mem := fun c => bif Nat.blt c 67 then M9 c else bif Nat.blt c 94 then M10 c else bif Nat.beq c 998 then scr else fun _ => 0
def jl_scr (L : Nat) (xs : Nat → Int32) (i : Int) : Int := if i = -1 then (L : Int) else (xs i.toNat).toInt
theorem jl_ad_o {a9 a10 adS : Nat → Nat} {q b : Nat} : ∀ i, i < 6 → jl_ad a9 a10 adS q b (200 + i) = adS (200 + i)
  | 0, _ => rfl
  | 1, _ => rfl
  | 2, _ => rfl
  | 3, _ => rfl
  | 4, _ => rfl
  | 5, _ => rfl
  | i + 6, h => absurd h (by omega)
theorem jl_scr_in {L : Nat} (hL : L ≤ 3072) (xs : Nat → Int32) (i : Int) : jm_in (jl_scr L xs i) := by
  unfold jl_scr
  split
  · exact ⟨by omega, by omega⟩
  · have h1 := Int32.le_toInt (xs i.toNat)
    have h2 := Int32.toInt_lt (xs i.toNat)
    exact ⟨by omega, by omega⟩
theorem jl_scr_1 (L : Nat) (xs : Nat → Int32) : jl_scr L xs (-1) = (L : Int) := rfl
theorem jl_scr_j (L : Nat) (xs : Nat → Int32) (j : Nat) : jl_scr L xs (j : Int) = (xs j).toInt := by
  unfold jl_scr
  rw [if_neg (by omega)]
  rfl
theorem jl_ok {M9 M10 : jm_Mem} {scr : Int → Int} (h9 : jm_okM M9) (hX : jm_okM M10) (hs : ∀ i, jm_in (scr i)) : jm_okM (jl_M M9 M10 scr) := by
  intro c i hc
  unfold jl_M
  cases Nat.blt c 67
  · cases Nat.blt c 94
    · cases Nat.beq c 998
      · exact ⟨(show (-2147483648 : Int) ≤ 0 by decide), (show (0 : Int) ≤ 2147483647 by decide)⟩
      · exact hs i
    · exact hX c i hc
  · exact h9 c i hc
theorem jl_ctx6 {dC : Nat → ClassId} {dI : Nat → Nat → Nat} {cA : Nat → ClassId} {ad ad' adV : Nat → Nat} {A : Nat → Prop} {U : State} {H : Heap} (e : ∀ i, i < 6 → ad' (200 + i) = ad (200 + i)) (h : jm_ctx dC dI cA ad adV A U H) : jm_ctx dC dI cA ad' adV A U H := by
  obtain ⟨h1, h2, h3, h4⟩ := h
  refine ⟨h1, ⟨fun i hi => ?_, fun i j hi hj he => ?_⟩, fun i hi => ?_, h4⟩
  · have := h2.1 i hi
    dsimp only at this ⊢
    rw [e i hi]
    exact this
  · refine h2.2 i j hi hj ?_
    dsimp only at he ⊢
    rw [← e i hi, ← e j hj]
    exact he
  · rw [e i hi]; exact h3 i hi
theorem jl_Sm {M9 M10 : jm_Mem} {scr : Int → Int} (h4 : jn_F M9) (h5 : ∀ i, M9 22 i = 0 ∧ M9 42 i = 0 ∧ M9 65 i = 0 ∧ M9 66 i = 0) (hb : jb_F M10) : z_Sm (jl_M M9 M10 scr) := by
  obtain ⟨hR, b1, b2, b3, b4, b5⟩ := hb
  have a0 : (jl_M M9 M10 scr) 22 0 = 0 := (h5 0).1
  have a1 : (jl_M M9 M10 scr) 22 1 = 0 := (h5 1).1
  have a2 : (jl_M M9 M10 scr) 67 51 = 0 := b2
  have a3 : (jl_M M9 M10 scr) 65 1 = 0 := (h5 1).2.2.1
  have a4 : (jl_M M9 M10 scr) 67 8 = 0 := b3
  have a5 : ∀ i, (jl_M M9 M10 scr) 66 i = 0 := fun i => (h5 i).2.2.2
  have a6 : ∀ i, (jl_M M9 M10 scr) 73 i = 0 := b5
  have a7 : (jl_M M9 M10 scr) 67 20 = 0 := b4
  have a8 : (jl_M M9 M10 scr) 42 4 = 0 := (h5 4).2.1
  have a9 : (jl_M M9 M10 scr) 67 33 = 0 := b1
  refine ⟨3, 3, fun _ => 0, fun _ => 0, fun _ => 0, fun _ => 0, ?_, h4, hR, Or.inl ⟨a8, a9⟩, ?_, ?_, ?_⟩
  · have n9 : (-99 : Int) ≤ 0 := by decide
    have p9 : (0 : Int) ≤ 99 := by decide
    exact ⟨⟨⟨⟨by decide, by decide, by decide, by decide⟩, fun _ => ⟨Int.le_refl 0, (show (0 : Int) ≤ 2 by decide), fun z => absurd rfl z⟩⟩, fun _ => ⟨n9, p9, n9, p9, Int.le_refl 0⟩, fun _ _ => ⟨rfl, rfl⟩⟩, fun _ => ⟨⟨n9, p9⟩, fun _ => rfl⟩⟩
  · exact ⟨Or.inl a0, Or.inl a1, by rw [a2, a0, a1]; rfl, fun q => by rw [a0] at q; exact absurd q (by decide), fun q => by rw [a1] at q; exact absurd q (by decide)⟩
  · refine ⟨by rw [a3]; decide, by rw [a3]; decide, by rw [a4, a3], fun v => by rw [a5]; decide, fun v h0 h1 => ?_⟩
    rw [a3] at h1
    omega
  · exact ⟨fun i => by rw [a6]; decide, by rw [a7]; decide, by rw [a7]; decide⟩
