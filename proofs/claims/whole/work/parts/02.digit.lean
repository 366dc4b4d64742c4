/-- the value of variable i in the assignment a -/
def dl_dg (a i : Nat) : Nat := a / 3 ^ (5 - i) % 3
theorem dl_dg3 (a i : Nat) : dl_dg a i < 3 := Nat.mod_lt _ (by decide)
theorem dl_r3 {r : Nat} (hr : r < 729) : nI r - nI r / 3 * 3 = nI (r % 3) := pk_rem (d := 3) (by omega) (by decide) (by decide)
theorem dl_d3 {r : Nat} (hr : r < 729) : nI r / 3 = nI (r / 3) := pk_div (d := 3) (by omega) (by decide) (by decide)
theorem dl_p3 (r d : Nat) : r / 3 / 3 ^ d % 3 = r / 3 ^ (d + 1) % 3 := by
  rw [Nat.div_div_eq_div_mul, ← Nat.pow_succ']
theorem dl_xv (post : Int32 → Prop) (i : Nat) : ∀ d r n : Nat, i + d < 6 → r < 729 → d < n → post (nI (r / 3 ^ d % 3)) → wX_valueIn_4 post (nI i) n (nI r) (nI (i + d)) := by
  intro d
  induction d with
  | zero =>
    intro r n hd hr hn hp
    obtain ⟨m, rfl⟩ : ∃ m, n = m + 1 := ⟨n - 1, by omega⟩
    refine pk_le (i + 0) i (fun _ => ⟨by decide, ?_⟩) (fun h => absurd h (by omega))
    rw [dl_r3 hr]
    rw [Nat.pow_zero, Nat.div_one] at hp
    exact hp
  | succ d ih =>
    intro r n hd hr hn hp
    obtain ⟨m, rfl⟩ : ∃ m, n = m + 1 := ⟨n - 1, by omega⟩
    exact pk_le (i + (d + 1)) i (fun h => absurd h (by omega)) (fun _ => ⟨by decide, nm_r (dl_d3 hr) (nm_r (pk_m1 (i + d)) (ih (r / 3) m (by omega) (by omega) (by omega) (by rw [dl_p3]; exact hp)))⟩)
theorem dl_yv (post : Int32 → Prop) (o p : Nat → Int32) (i : Nat) : ∀ d r n : Nat, i + d < 6 → r < 729 → d < n → post (nI (r / 3 ^ d % 3)) → wY_digit_5 post (nI i) o p n (nI r) (nI (i + d)) := by
  intro d
  induction d with
  | zero =>
    intro r n hd hr hn hp
    obtain ⟨m, rfl⟩ : ∃ m, n = m + 1 := ⟨n - 1, by omega⟩
    refine pk_le (i + 0) i (fun _ => ⟨by decide, ?_⟩) (fun h => absurd h (by omega))
    rw [dl_r3 hr]
    rw [Nat.pow_zero, Nat.div_one] at hp
    exact hp
  | succ d ih =>
    intro r n hd hr hn hp
    obtain ⟨m, rfl⟩ : ∃ m, n = m + 1 := ⟨n - 1, by omega⟩
    exact pk_le (i + (d + 1)) i (fun h => absurd h (by omega)) (fun _ => ⟨by decide, nm_r (dl_d3 hr) (nm_r (pk_m1 (i + d)) (ih (r / 3) m (by omega) (by omega) (by omega) (by rw [dl_p3]; exact hp)))⟩)
theorem dl_xval {post : Int32 → Prop} {a i : Nat} (ha : a < 729) (hi : i < 6) (h : post (nI (dl_dg a i))) : wpX_valueIn post (nI a) (nI i) := by
  have q := dl_xv post i (5 - i) a 7 (by omega) ha (by omega) h
  rw [show i + (5 - i) = 5 by omega] at q
  exact ⟨7, q⟩
theorem dl_yval {post : Int32 → Prop} {o p : Nat → Int32} {a i : Nat} (ha : a < 729) (hi : i < 6) (h : post (nI (dl_dg a i))) : wpY_digit post (o, p) (nI a) (nI i) := by
  have q := dl_yv post o p i (5 - i) a 7 (by omega) ha (by omega) h
  rw [show i + (5 - i) = 5 by omega] at q
  exact ⟨7, q⟩
