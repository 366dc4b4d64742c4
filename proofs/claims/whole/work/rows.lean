section
theorem pk_us {f : Nat → Int32} {k : Nat} {x : Int32} : upd f k x k = x := if_pos rfl
theorem pk_un {f : Nat → Int32} {k j : Nat} {x : Int32} (h : j ≠ k) : upd f k x j = f j := if_neg h
theorem pk_sub {a b : Nat} (h : b ≤ a) : nI a - nI b = nI (a - b) := by
  obtain ⟨c, rfl⟩ : ∃ c, a = c + b := ⟨a - b, by omega⟩
  rw [← nI_add, Int32.add_sub_cancel, Nat.add_sub_cancel]
theorem pk_m1 (n : Nat) : nI (n + 1) + (-1) = nI n := by
  rw [← nI_1, Int32.add_assoc, show (1 : Int32) + (-1) = 0 from rfl, Int32.add_zero]
theorem pk_mul (a b : Nat) : nI a * nI b = nI (a * b) := (Int32.ofNat_mul a b).symm
theorem pk_div {a d : Nat} (ha : a < 2 ^ 31) (h0 : 0 < d) (hd : d < 2 ^ 31) : nI a / nI d = nI (a / d) := by
  apply Int32.toInt_inj.mp
  rw [lg_idiv_nonneg (by rw [nI_toInt ha]; omega) (by rw [nI_toInt hd]; omega), nI_toInt ha, nI_toInt hd, nI_toInt (Nat.lt_of_le_of_lt (Nat.div_le_self a d) ha)]
  first | rfl | exact (Int.natCast_ediv _ _).symm
theorem pk_rem {a d : Nat} (ha : a < 2 ^ 31) (h0 : 0 < d) (hd : d < 2 ^ 31) : nI a - nI a / nI d * nI d = nI (a % d) := by
  rw [pk_div ha h0 hd, pk_mul, pk_sub (Nat.div_mul_le_self a d)]
  exact congrArg nI (by have := Nat.div_add_mod' a d; omega)
theorem pk_ix (x : Int32) {n : Nat} (hn : n < 2 ^ 31) : x < 0 ∨ nI n ≤ x ∨ ∃ j : Nat, j < n ∧ x = nI j := by
  by_cases h : x < 0
  · exact Or.inl h
  · obtain ⟨j, hj, rfl⟩ := nI_of h
    by_cases h2 : j < n
    · exact Or.inr (Or.inr ⟨j, h2, rfl⟩)
    · exact Or.inr (Or.inl (nI_le (by omega) hj))
theorem pk_le {x y : Int32} {A B : Prop} (a b : Nat) (f : a ≤ b → A) (g : b < a → B) (hx : x = nI a := by rfl) (hy : y = nI b := by rfl) (ha : a < 2 ^ 31 := by omega) (hb : b < 2 ^ 31 := by omega) : (x ≤ y → A) ∧ (¬ x ≤ y → B) := by
  subst hx hy
  rw [nI_leI ha hb]
  exact ⟨f, fun z => g (by omega)⟩
theorem pk_lt {x y : Int32} {A B : Prop} (a b : Nat) (f : a < b → A) (g : b ≤ a → B) (hx : x = nI a := by rfl) (hy : y = nI b := by rfl) (ha : a < 2 ^ 31 := by omega) (hb : b < 2 ^ 31 := by omega) : (x < y → A) ∧ (¬ x < y → B) := by
  subst hx hy
  rw [nI_ltI ha hb]
  exact ⟨f, fun z => g (by omega)⟩
theorem pk_eq {x y : Int32} {A B : Prop} (a b : Nat) (f : a = b → A) (g : a ≠ b → B) (hx : x = nI a := by rfl) (hy : y = nI b := by rfl) (ha : a < 2 ^ 31 := by omega) (hb : b < 2 ^ 31 := by omega) : (x = y → A) ∧ (¬ x = y → B) := by
  subst hx hy
  rw [nI_eq ha hb]
  exact ⟨f, g⟩
theorem pk_in {x : Int32} (n N : Nat) (h : n < N) (hx : x = nI n := by rfl) (hN : N < 2 ^ 31 := by omega) : vp_in x N := by
  subst hx
  exact vp_in_nI h hN
theorem pk_cl {x : Int32} (n : Nat) (hx : x = nI n := by rfl) (h : n < 2 ^ 31 := by omega) : x.toNatClampNeg = n := by
  subst hx
  exact nI_clamp h
end
section
/-- the value of variable i in the assignment a -/
def dl_dg (a i : Nat) : Nat := a / 3 ^ (5 - i) % 3
theorem dl_dg3 (a i : Nat) : dl_dg a i < 3 := Nat.mod_lt _ (by decide)
theorem dl_r3 {r : Nat} (hr : r < 729) : nI r - nI r / 3 * 3 = nI (r % 3) := pk_rem (d := 3) (by omega) (by decide) (by decide)
theorem dl_d3 {r : Nat} (hr : r < 729) : nI r / 3 = nI (r / 3) := pk_div (d := 3) (by omega) (by decide) (by decide)
theorem dl_p3 (r d : Nat) : r / 3 / 3 ^ d % 3 = r / 3 ^ (d + 1) % 3 := by
  rw [Nat.div_div_eq_div_mul, ← Nat.pow_succ']
theorem dl_xv (post : Int32 → Prop) (i : Nat) : ∀ d r n : Nat, i + d < 6 → r < 729 → d < n → post (nI (r / 3 ^ d % 3)) → wX_valueIn_4 post (nI i) n (nI r) (nI (i + d)) := by
  intro d
  induction d with
  | zero =>
    intro r n hd hr hn hp
    obtain ⟨m, rfl⟩ : ∃ m, n = m + 1 := ⟨n - 1, by omega⟩
    refine pk_le (i + 0) i (fun _ => ⟨by decide, ?_⟩) (fun h => absurd h (by omega))
    rw [dl_r3 hr]
    rw [Nat.pow_zero, Nat.div_one] at hp
    exact hp
  | succ d ih =>
    intro r n hd hr hn hp
    obtain ⟨m, rfl⟩ : ∃ m, n = m + 1 := ⟨n - 1, by omega⟩
    exact pk_le (i + (d + 1)) i (fun h => absurd h (by omega)) (fun _ => ⟨by decide, nm_r (dl_d3 hr) (nm_r (pk_m1 (i + d)) (ih (r / 3) m (by omega) (by omega) (by omega) (by rw [dl_p3]; exact hp)))⟩)
theorem dl_yv (post : Int32 → Prop) (o p : Nat → Int32) (i : Nat) : ∀ d r n : Nat, i + d < 6 → r < 729 → d < n → post (nI (r / 3 ^ d % 3)) → wY_digit_5 post (nI i) o p n (nI r) (nI (i + d)) := by
  intro d
  induction d with
  | zero =>
    intro r n hd hr hn hp
    obtain ⟨m, rfl⟩ : ∃ m, n = m + 1 := ⟨n - 1, by omega⟩
    refine pk_le (i + 0) i (fun _ => ⟨by decide, ?_⟩) (fun h => absurd h (by omega))
    rw [dl_r3 hr]
    rw [Nat.pow_zero, Nat.div_one] at hp
    exact hp
  | succ d ih =>
    intro r n hd hr hn hp
    obtain ⟨m, rfl⟩ : ∃ m, n = m + 1 := ⟨n - 1, by omega⟩
    exact pk_le (i + (d + 1)) i (fun h => absurd h (by omega)) (fun _ => ⟨by decide, nm_r (dl_d3 hr) (nm_r (pk_m1 (i + d)) (ih (r / 3) m (by omega) (by omega) (by omega) (by rw [dl_p3]; exact hp)))⟩)
theorem dl_xval {post : Int32 → Prop} {a i : Nat} (ha : a < 729) (hi : i < 6) (h : post (nI (dl_dg a i))) : wpX_valueIn post (nI a) (nI i) := by
  have q := dl_xv post i (5 - i) a 7 (by omega) ha (by omega) h
  rw [show i + (5 - i) = 5 by omega] at q
  exact ⟨7, q⟩
theorem dl_yval {post : Int32 → Prop} {o p : Nat → Int32} {a i : Nat} (ha : a < 729) (hi : i < 6) (h : post (nI (dl_dg a i))) : wpY_digit post (o, p) (nI a) (nI i) := by
  have q := dl_yv post o p i (5 - i) a 7 (by omega) ha (by omega) h
  rw [show i + (5 - i) = 5 by omega] at q
  exact ⟨7, q⟩
end
section
/-- the place of a pair's cost -/
def dl_pl (a i j : Nat) : Nat := 9 * (6 * i + j) + (3 * dl_dg a i + dl_dg a j)
/-- the place of an own cost -/
def dl_ol (a i : Nat) : Nat := 3 * i + dl_dg a i
def dl_ci (p : Nat → Int32) (a i : Nat) : Nat → Nat → Int32 → Option Int32
  | 0, _, s => some s
  | d + 1, j, s => if p (dl_pl a i j) = 99 then none else dl_ci p a i d (j + 1) (s + p (dl_pl a i j))
def dl_co (o p : Nat → Int32) (a : Nat) : Nat → Nat → Int32 → Int32
  | 0, _, s => s
  | d + 1, i, s => if o (dl_ol a i) = 99 then -4 else (dl_ci p a i d (i + 1) (s + o (dl_ol a i))).elim (-4) (fun s' => dl_co o p a d (i + 1) s')
/-- the cost of the variables from f on, under the assignment a; -4 where it is barred -/
def dl_cost (o p : Nat → Int32) (f a : Nat) : Int32 := dl_co o p a (6 - f) f 0
theorem dl_nlt {q : Nat} (h : q < 2 ^ 31) (x : Int32) (e : x = nI q) : x.toNatClampNeg = q := by rw [e]; exact nI_clamp h
theorem dl_vx (a i j : Nat) : 3 * nI (dl_dg a i) + nI (dl_dg a j) = nI (3 * dl_dg a i + dl_dg a j) := by
  rw [show (3 : Int32) = nI 3 from rfl, pk_mul, nI_add]
theorem dl_px (a i j : Nat) : 9 * (6 * nI i + nI j) + nI (3 * dl_dg a i + dl_dg a j) = nI (dl_pl a i j) := by
  rw [show (9 : Int32) = nI 9 from rfl, show (6 : Int32) = nI 6 from rfl, pk_mul, nI_add, pk_mul, nI_add]
  rfl
theorem dl_py (a i j : Nat) : 9 * (6 * nI i + nI j) + 3 * nI (dl_dg a i) + nI (dl_dg a j) = nI (dl_pl a i j) := by
  rw [show (9 : Int32) = nI 9 from rfl, show (6 : Int32) = nI 6 from rfl, show (3 : Int32) = nI 3 from rfl, pk_mul, nI_add, pk_mul, pk_mul, nI_add, nI_add]
  exact congrArg nI (by unfold dl_pl; omega)
theorem dl_ox (a i : Nat) : 3 * nI i + nI (dl_dg a i) = nI (dl_ol a i) := by
  rw [show (3 : Int32) = nI 3 from rfl, pk_mul, nI_add]
  rfl
theorem dl_pl_lt {a i j : Nat} (hi : i < 6) (hj : j < 6) : dl_pl a i j < 324 := by
  have h1 := dl_dg3 a i
  have h2 := dl_dg3 a j
  unfold dl_pl
  omega
theorem dl_ol_lt {a i : Nat} (hi : i < 6) : dl_ol a i < 18 := by
  have h1 := dl_dg3 a i
  unfold dl_ol
  omega
theorem dl_rd (f : Nat → Int32) {x : Int32} {q N : Nat} (e : x = nI q) (h : q < N) (hN : N < 2 ^ 31) : f x.toNatClampNeg = f q := congrArg f (dl_nlt (by omega) x e)
theorem dl_ci_t {p : Nat → Int32} {a i d j : Nat} {s : Int32} (h : p (dl_pl a i j) = 99) : dl_ci p a i (d + 1) j s = none := if_pos h
theorem dl_ci_f {p : Nat → Int32} {a i d j : Nat} {s : Int32} (h : ¬ p (dl_pl a i j) = 99) : dl_ci p a i (d + 1) j s = dl_ci p a i d (j + 1) (s + p (dl_pl a i j)) := if_neg h
theorem dl_co_t {o p : Nat → Int32} {a d i : Nat} {s : Int32} (h : o (dl_ol a i) = 99) : dl_co o p a (d + 1) i s = -4 := if_pos h
theorem dl_co_f {o p : Nat → Int32} {a d i : Nat} {s : Int32} (h : ¬ o (dl_ol a i) = 99) : dl_co o p a (d + 1) i s = (dl_ci p a i d (i + 1) (s + o (dl_ol a i))).elim (-4) (fun s' => dl_co o p a d (i + 1) s') := if_neg h
theorem dl_xi (post : Int32 → Prop) (J : Int32 → Int32 → Prop) (o p : Nat → Int32) (a i : Nat) (ha : a < 729) (hi : i < 6) : ∀ (d j n : Nat) (s : Int32), j + d = 6 → d < n → (dl_ci p a i d j s = none → post (-4)) → (∀ s', dl_ci p a i d j s = some s' → J s' (nI (i + 1))) → wX_costFrom_55 post J (nI a) (nI i) (nI (dl_dg a i)) o p n s (nI j) := by
  intro d
  induction d with
  | zero =>
    intro j n s hj hn h1 h2
    obtain ⟨m, rfl⟩ : ∃ m, n = m + 1 := ⟨n - 1, by omega⟩
    exact pk_le 6 j (fun _ => nm_r (nI_1 i) (h2 s rfl)) (fun h => absurd h (by omega))
  | succ d ih =>
    intro j n s hj hn h1 h2
    obtain ⟨m, rfl⟩ : ∃ m, n = m + 1 := ⟨n - 1, by omega⟩
    have hj6 : j < 6 := by omega
    refine pk_le 6 j (fun h => absurd h (by omega)) (fun _ => dl_xval ha hj6 (nm_r (dl_vx a i j) ⟨pk_in (dl_pl a i j) 324 (dl_pl_lt hi hj6) (dl_px a i j), nm_r (dl_rd p (dl_px a i j) (dl_pl_lt hi hj6) (by decide)) ?_⟩))
    by_cases h : p (dl_pl a i j) = 99
    · exact br_t h (h1 (dl_ci_t h))
    · rw [dl_ci_f h] at h1 h2
      exact br_f h (nm_e (nm_r (nI_1 j) (ih (j + 1) m _ (by omega) (by omega) h1 h2)))
theorem dl_yi (post : Int32 → Prop) (J : Int32 → Int32 → Prop) (o p : Nat → Int32) (a i : Nat) (ha : a < 729) (hi : i < 6) : ∀ (d j n : Nat) (s : Int32), j + d = 6 → d < n → (dl_ci p a i d j s = none → post (-4)) → (∀ s', dl_ci p a i d j s = some s' → J s' (nI (i + 1))) → wY_cost_62 post J (nI a) (nI i) (nI (dl_dg a i)) o p n s (nI j) := by
  intro d
  induction d with
  | zero =>
    intro j n s hj hn h1 h2
    obtain ⟨m, rfl⟩ : ∃ m, n = m + 1 := ⟨n - 1, by omega⟩
    exact pk_le 6 j (fun _ => nm_r (nI_1 i) (h2 s rfl)) (fun h => absurd h (by omega))
  | succ d ih =>
    intro j n s hj hn h1 h2
    obtain ⟨m, rfl⟩ : ∃ m, n = m + 1 := ⟨n - 1, by omega⟩
    have hj6 : j < 6 := by omega
    refine pk_le 6 j (fun h => absurd h (by omega)) (fun _ => dl_yval ha hj6 ⟨pk_in (dl_pl a i j) 324 (dl_pl_lt hi hj6) (dl_py a i j), nm_r (dl_rd p (dl_py a i j) (dl_pl_lt hi hj6) (by decide)) ?_⟩)
    by_cases h : p (dl_pl a i j) = 99
    · exact br_t h (h1 (dl_ci_t h))
    · rw [dl_ci_f h] at h1 h2
      exact br_f h (nm_e (nm_r (nI_1 j) (ih (j + 1) m _ (by omega) (by omega) h1 h2)))
theorem dl_xo (post : Int32 → Prop) (o p : Nat → Int32) (a : Nat) (ha : a < 729) : ∀ (d i n : Nat) (s : Int32), i + d = 6 → d < n → post (dl_co o p a d i s) → wX_costFrom_5 post (nI a) o p n s (nI i) := by
  intro d
  induction d with
  | zero =>
    intro i n s hi hn h
    obtain ⟨m, rfl⟩ : ∃ m, n = m + 1 := ⟨n - 1, by omega⟩
    exact pk_le 6 i (fun _ => h) (fun h => absurd h (by omega))
  | succ d ih =>
    intro i n s hi hn hp
    obtain ⟨m, rfl⟩ : ∃ m, n = m + 1 := ⟨n - 1, by omega⟩
    have hi6 : i < 6 := by omega
    refine pk_le 6 i (fun h => absurd h (by omega)) (fun _ => dl_xval ha hi6 ⟨pk_in (dl_ol a i) 18 (dl_ol_lt hi6) (dl_ox a i), nm_r (dl_rd o (dl_ox a i) (dl_ol_lt hi6) (by decide)) ?_⟩)
    by_cases h : o (dl_ol a i) = 99
    · rw [dl_co_t h] at hp
      exact br_t h hp
    · rw [dl_co_f h] at hp
      refine br_f h (nm_e (nm_r (nI_1 i) ⟨7, dl_xi post _ o p a i ha hi6 d (i + 1) 7 _ (by omega) (by omega) (fun e => ?_) (fun s' e => ih (i + 1) m s' (by omega) (by omega) ?_)⟩))
      · rw [e] at hp; exact hp
      · rw [e] at hp; exact hp
theorem dl_yo (post : Int32 → Prop) (o p : Nat → Int32) (a : Nat) (ha : a < 729) : ∀ (d i n : Nat) (s : Int32), i + d = 6 → d < n → post (dl_co o p a d i s) → wY_cost_5 post (nI a) o p n s (nI i) := by
  intro d
  induction d with
  | zero =>
    intro i n s hi hn h
    obtain ⟨m, rfl⟩ : ∃ m, n = m + 1 := ⟨n - 1, by omega⟩
    exact pk_le 6 i (fun _ => h) (fun h => absurd h (by omega))
  | succ d ih =>
    intro i n s hi hn hp
    obtain ⟨m, rfl⟩ : ∃ m, n = m + 1 := ⟨n - 1, by omega⟩
    have hi6 : i < 6 := by omega
    have hv : vp_in (3 * nI i + nI (dl_dg a i)) 18 := pk_in (dl_ol a i) 18 (dl_ol_lt hi6) (dl_ox a i)
    have hr : o (3 * nI i + nI (dl_dg a i)).toNatClampNeg = o (dl_ol a i) := dl_rd o (dl_ox a i) (dl_ol_lt hi6) (by decide)
    refine pk_le 6 i (fun h => absurd h (by omega)) (fun _ => dl_yval ha hi6 ⟨hv, ?_⟩)
    by_cases h : o (dl_ol a i) = 99
    · rw [dl_co_t h] at hp
      exact br_t (hr.trans h) hp
    · rw [dl_co_f h] at hp
      refine br_f (fun z => h (hr.symm.trans z)) ⟨hv, nm_r (congrArg (fun z => s + z) hr) (nm_r (nI_1 i) ⟨7, dl_yi post _ o p a i ha hi6 d (i + 1) 7 _ (by omega) (by omega) (fun e => ?_) (fun s' e => ih (i + 1) m s' (by omega) (by omega) ?_)⟩)⟩
      · rw [e] at hp; exact hp
      · rw [e] at hp; exact hp
theorem dl_xcost {post : Int32 → Prop} {o p : Nat → Int32} {f a : Nat} (ha : a < 729) (hf : f < 6) (h : post (dl_cost o p f a)) : wpX_costFrom post (o, p) (nI f) (nI a) := ⟨7, dl_xo post o p a ha (6 - f) f 7 0 (by omega) (by omega) h⟩
theorem dl_ycost {post : Int32 → Prop} {o p : Nat → Int32} {f a : Nat} (ha : a < 729) (hf : f < 6) (h : post (dl_cost o p f a)) : wpY_cost post (o, p) (nI a) (nI f) := ⟨7, dl_yo post o p a ha (6 - f) f 7 0 (by omega) (by omega) h⟩
end
section
def i_Rel (_ : Nat) (u : SX) (v : SY) : Prop := u = v
end
