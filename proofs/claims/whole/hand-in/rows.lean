section
theorem pk_us {f : Nat → Int32} {k : Nat} {x : Int32} : upd f k x k = x := if_pos rfl
theorem pk_un {f : Nat → Int32} {k j : Nat} {x : Int32} (h : j ≠ k) : upd f k x j = f j := if_neg h
theorem pk_sub {a b : Nat} (h : b ≤ a) : nI a - nI b = nI (a - b) := by
  obtain ⟨c, rfl⟩ : ∃ c, a = c + b := ⟨a - b, by omega⟩
  rw [← nI_add, Int32.add_sub_cancel, Nat.add_sub_cancel]
theorem pk_m1 (n : Nat) : nI (n + 1) + (-1) = nI n := by
  rw [← nI_1, Int32.add_assoc, show (1 : Int32) + (-1) = 0 from rfl, Int32.add_zero]
theorem pk_mul (a b : Nat) : nI a * nI b = nI (a * b) := (Int32.ofNat_mul a b).symm
theorem pk_div {a d : Nat} (ha : a < 2 ^ 31) (h0 : 0 < d) (hd : d < 2 ^ 31) : nI a / nI d = nI (a / d) := by
  apply Int32.toInt_inj.mp
  rw [lg_idiv_nonneg (by rw [nI_toInt ha]; omega) (by rw [nI_toInt hd]; omega), nI_toInt ha, nI_toInt hd, nI_toInt (Nat.lt_of_le_of_lt (Nat.div_le_self a d) ha)]
  first | rfl | exact (Int.natCast_ediv _ _).symm
theorem pk_rem {a d : Nat} (ha : a < 2 ^ 31) (h0 : 0 < d) (hd : d < 2 ^ 31) : nI a - nI a / nI d * nI d = nI (a % d) := by
  rw [pk_div ha h0 hd, pk_mul, pk_sub (Nat.div_mul_le_self a d)]
  exact congrArg nI (by have := Nat.div_add_mod' a d; omega)
theorem pk_ix (x : Int32) {n : Nat} (hn : n < 2 ^ 31) : x < 0 ∨ nI n ≤ x ∨ ∃ j : Nat, j < n ∧ x = nI j := by
  by_cases h : x < 0
  · exact Or.inl h
  · obtain ⟨j, hj, rfl⟩ := nI_of h
    by_cases h2 : j < n
    · exact Or.inr (Or.inr ⟨j, h2, rfl⟩)
    · exact Or.inr (Or.inl (nI_le (by omega) hj))
theorem pk_le {x y : Int32} {A B : Prop} (a b : Nat) (f : a ≤ b → A) (g : b < a → B) (hx : x = nI a := by rfl) (hy : y = nI b := by rfl) (ha : a < 2 ^ 31 := by omega) (hb : b < 2 ^ 31 := by omega) : (x ≤ y → A) ∧ (¬ x ≤ y → B) := by
  subst hx hy
  rw [nI_leI ha hb]
  exact ⟨f, fun z => g (by omega)⟩
theorem pk_lt {x y : Int32} {A B : Prop} (a b : Nat) (f : a < b → A) (g : b ≤ a → B) (hx : x = nI a := by rfl) (hy : y = nI b := by rfl) (ha : a < 2 ^ 31 := by omega) (hb : b < 2 ^ 31 := by omega) : (x < y → A) ∧ (¬ x < y → B) := by
  subst hx hy
  rw [nI_ltI ha hb]
  exact ⟨f, fun z => g (by omega)⟩
theorem pk_eq {x y : Int32} {A B : Prop} (a b : Nat) (f : a = b → A) (g : a ≠ b → B) (hx : x = nI a := by rfl) (hy : y = nI b := by rfl) (ha : a < 2 ^ 31 := by omega) (hb : b < 2 ^ 31 := by omega) : (x = y → A) ∧ (¬ x = y → B) := by
  subst hx hy
  rw [nI_eq ha hb]
  exact ⟨f, g⟩
theorem pk_in {x : Int32} (n N : Nat) (h : n < N) (hx : x = nI n := by rfl) (hN : N < 2 ^ 31 := by omega) : vp_in x N := by
  subst hx
  exact vp_in_nI h hN
theorem pk_cl {x : Int32} (n : Nat) (hx : x = nI n := by rfl) (h : n < 2 ^ 31 := by omega) : x.toNatClampNeg = n := by
  subst hx
  exact nI_clamp h
end
section
/-- the value of variable i in the assignment a -/
def dl_dg (a i : Nat) : Nat := a / 3 ^ (5 - i) % 3
theorem dl_dg3 (a i : Nat) : dl_dg a i < 3 := Nat.mod_lt _ (by decide)
theorem dl_r3 {r : Nat} (hr : r < 729) : nI r - nI r / 3 * 3 = nI (r % 3) := pk_rem (d := 3) (by omega) (by decide) (by decide)
theorem dl_d3 {r : Nat} (hr : r < 729) : nI r / 3 = nI (r / 3) := pk_div (d := 3) (by omega) (by decide) (by decide)
theorem dl_p3 (r d : Nat) : r / 3 / 3 ^ d % 3 = r / 3 ^ (d + 1) % 3 := by
  rw [Nat.div_div_eq_div_mul, ← Nat.pow_succ']
theorem dl_xv (post : Int32 → Prop) (i : Nat) : ∀ d r n : Nat, i + d < 6 → r < 729 → d < n → post (nI (r / 3 ^ d % 3)) → wX_valueIn_4 post (nI i) n (nI r) (nI (i + d)) := by
  intro d
  induction d with
  | zero =>
    intro r n hd hr hn hp
    obtain ⟨m, rfl⟩ : ∃ m, n = m + 1 := ⟨n - 1, by omega⟩
    refine pk_le (i + 0) i (fun _ => ⟨by decide, ?_⟩) (fun h => absurd h (by omega))
    rw [dl_r3 hr]
    rw [Nat.pow_zero, Nat.div_one] at hp
    exact hp
  | succ d ih =>
    intro r n hd hr hn hp
    obtain ⟨m, rfl⟩ : ∃ m, n = m + 1 := ⟨n - 1, by omega⟩
    exact pk_le (i + (d + 1)) i (fun h => absurd h (by omega)) (fun _ => ⟨by decide, nm_r (dl_d3 hr) (nm_r (pk_m1 (i + d)) (ih (r / 3) m (by omega) (by omega) (by omega) (by rw [dl_p3]; exact hp)))⟩)
theorem dl_yv (post : Int32 → Prop) (o p : Nat → Int32) (i : Nat) : ∀ d r n : Nat, i + d < 6 → r < 729 → d < n → post (nI (r / 3 ^ d % 3)) → wY_digit_5 post (nI i) o p n (nI r) (nI (i + d)) := by
  intro d
  induction d with
  | zero =>
    intro r n hd hr hn hp
    obtain ⟨m, rfl⟩ : ∃ m, n = m + 1 := ⟨n - 1, by omega⟩
    refine pk_le (i + 0) i (fun _ => ⟨by decide, ?_⟩) (fun h => absurd h (by omega))
    rw [dl_r3 hr]
    rw [Nat.pow_zero, Nat.div_one] at hp
    exact hp
  | succ d ih =>
    intro r n hd hr hn hp
    obtain ⟨m, rfl⟩ : ∃ m, n = m + 1 := ⟨n - 1, by omega⟩
    exact pk_le (i + (d + 1)) i (fun h => absurd h (by omega)) (fun _ => ⟨by decide, nm_r (dl_d3 hr) (nm_r (pk_m1 (i + d)) (ih (r / 3) m (by omega) (by omega) (by omega) (by rw [dl_p3]; exact hp)))⟩)
theorem dl_xval {post : Int32 → Prop} {a i : Nat} (ha : a < 729) (hi : i < 6) (h : post (nI (dl_dg a i))) : wpX_valueIn post (nI a) (nI i) := by
  have q := dl_xv post i (5 - i) a 7 (by omega) ha (by omega) h
  rw [show i + (5 - i) = 5 by omega] at q
  exact ⟨7, q⟩
theorem dl_yval {post : Int32 → Prop} {o p : Nat → Int32} {a i : Nat} (ha : a < 729) (hi : i < 6) (h : post (nI (dl_dg a i))) : wpY_digit post (o, p) (nI a) (nI i) := by
  have q := dl_yv post o p i (5 - i) a 7 (by omega) ha (by omega) h
  rw [show i + (5 - i) = 5 by omega] at q
  exact ⟨7, q⟩
end
section
/-- the place of a pair's cost -/
def dl_pl (a i j : Nat) : Nat := 9 * (6 * i + j) + (3 * dl_dg a i + dl_dg a j)
/-- the place of an own cost -/
def dl_ol (a i : Nat) : Nat := 3 * i + dl_dg a i
def dl_ci (p : Nat → Int32) (a i : Nat) : Nat → Nat → Int32 → Option Int32
  | 0, _, s => some s
  | d + 1, j, s => if p (dl_pl a i j) = 99 then none else dl_ci p a i d (j + 1) (s + p (dl_pl a i j))
def dl_co (o p : Nat → Int32) (a : Nat) : Nat → Nat → Int32 → Int32
  | 0, _, s => s
  | d + 1, i, s => if o (dl_ol a i) = 99 then -4 else (dl_ci p a i d (i + 1) (s + o (dl_ol a i))).elim (-4) (fun s' => dl_co o p a d (i + 1) s')
/-- the cost of the variables from f on, under the assignment a; -4 where it is barred -/
def dl_cost (o p : Nat → Int32) (f a : Nat) : Int32 := dl_co o p a (6 - f) f 0
theorem dl_nlt {q : Nat} (h : q < 2 ^ 31) (x : Int32) (e : x = nI q) : x.toNatClampNeg = q := by rw [e]; exact nI_clamp h
theorem dl_vx (a i j : Nat) : 3 * nI (dl_dg a i) + nI (dl_dg a j) = nI (3 * dl_dg a i + dl_dg a j) := by
  rw [show (3 : Int32) = nI 3 from rfl, pk_mul, nI_add]
theorem dl_px (a i j : Nat) : 9 * (6 * nI i + nI j) + nI (3 * dl_dg a i + dl_dg a j) = nI (dl_pl a i j) := by
  rw [show (9 : Int32) = nI 9 from rfl, show (6 : Int32) = nI 6 from rfl, pk_mul, nI_add, pk_mul, nI_add]
  rfl
theorem dl_py (a i j : Nat) : 9 * (6 * nI i + nI j) + 3 * nI (dl_dg a i) + nI (dl_dg a j) = nI (dl_pl a i j) := by
  rw [show (9 : Int32) = nI 9 from rfl, show (6 : Int32) = nI 6 from rfl, show (3 : Int32) = nI 3 from rfl, pk_mul, nI_add, pk_mul, pk_mul, nI_add, nI_add]
  exact congrArg nI (by unfold dl_pl; omega)
theorem dl_ox (a i : Nat) : 3 * nI i + nI (dl_dg a i) = nI (dl_ol a i) := by
  rw [show (3 : Int32) = nI 3 from rfl, pk_mul, nI_add]
  rfl
theorem dl_pl_lt {a i j : Nat} (hi : i < 6) (hj : j < 6) : dl_pl a i j < 324 := by
  have h1 := dl_dg3 a i
  have h2 := dl_dg3 a j
  unfold dl_pl
  omega
theorem dl_ol_lt {a i : Nat} (hi : i < 6) : dl_ol a i < 18 := by
  have h1 := dl_dg3 a i
  unfold dl_ol
  omega
theorem dl_rd (f : Nat → Int32) {x : Int32} {q N : Nat} (e : x = nI q) (h : q < N) (hN : N < 2 ^ 31) : f x.toNatClampNeg = f q := congrArg f (dl_nlt (by omega) x e)
theorem dl_ci_t {p : Nat → Int32} {a i d j : Nat} {s : Int32} (h : p (dl_pl a i j) = 99) : dl_ci p a i (d + 1) j s = none := if_pos h
theorem dl_ci_f {p : Nat → Int32} {a i d j : Nat} {s : Int32} (h : ¬ p (dl_pl a i j) = 99) : dl_ci p a i (d + 1) j s = dl_ci p a i d (j + 1) (s + p (dl_pl a i j)) := if_neg h
theorem dl_co_t {o p : Nat → Int32} {a d i : Nat} {s : Int32} (h : o (dl_ol a i) = 99) : dl_co o p a (d + 1) i s = -4 := if_pos h
theorem dl_co_f {o p : Nat → Int32} {a d i : Nat} {s : Int32} (h : ¬ o (dl_ol a i) = 99) : dl_co o p a (d + 1) i s = (dl_ci p a i d (i + 1) (s + o (dl_ol a i))).elim (-4) (fun s' => dl_co o p a d (i + 1) s') := if_neg h
theorem dl_xi (post : Int32 → Prop) (J : Int32 → Int32 → Prop) (o p : Nat → Int32) (a i : Nat) (ha : a < 729) (hi : i < 6) : ∀ (d j n : Nat) (s : Int32), j + d = 6 → d < n → (dl_ci p a i d j s = none → post (-4)) → (∀ s', dl_ci p a i d j s = some s' → J s' (nI (i + 1))) → wX_costFrom_55 post J (nI a) (nI i) (nI (dl_dg a i)) o p n s (nI j) := by
  intro d
  induction d with
  | zero =>
    intro j n s hj hn h1 h2
    obtain ⟨m, rfl⟩ : ∃ m, n = m + 1 := ⟨n - 1, by omega⟩
    exact pk_le 6 j (fun _ => nm_r (nI_1 i) (h2 s rfl)) (fun h => absurd h (by omega))
  | succ d ih =>
    intro j n s hj hn h1 h2
    obtain ⟨m, rfl⟩ : ∃ m, n = m + 1 := ⟨n - 1, by omega⟩
    have hj6 : j < 6 := by omega
    refine pk_le 6 j (fun h => absurd h (by omega)) (fun _ => dl_xval ha hj6 (nm_r (dl_vx a i j) ⟨pk_in (dl_pl a i j) 324 (dl_pl_lt hi hj6) (dl_px a i j), nm_r (dl_rd p (dl_px a i j) (dl_pl_lt hi hj6) (by decide)) ?_⟩))
    by_cases h : p (dl_pl a i j) = 99
    · exact br_t h (h1 (dl_ci_t h))
    · rw [dl_ci_f h] at h1 h2
      exact br_f h (nm_e (nm_r (nI_1 j) (ih (j + 1) m _ (by omega) (by omega) h1 h2)))
theorem dl_yi (post : Int32 → Prop) (J : Int32 → Int32 → Prop) (o p : Nat → Int32) (a i : Nat) (ha : a < 729) (hi : i < 6) : ∀ (d j n : Nat) (s : Int32), j + d = 6 → d < n → (dl_ci p a i d j s = none → post (-4)) → (∀ s', dl_ci p a i d j s = some s' → J s' (nI (i + 1))) → wY_cost_62 post J (nI a) (nI i) (nI (dl_dg a i)) o p n s (nI j) := by
  intro d
  induction d with
  | zero =>
    intro j n s hj hn h1 h2
    obtain ⟨m, rfl⟩ : ∃ m, n = m + 1 := ⟨n - 1, by omega⟩
    exact pk_le 6 j (fun _ => nm_r (nI_1 i) (h2 s rfl)) (fun h => absurd h (by omega))
  | succ d ih =>
    intro j n s hj hn h1 h2
    obtain ⟨m, rfl⟩ : ∃ m, n = m + 1 := ⟨n - 1, by omega⟩
    have hj6 : j < 6 := by omega
    refine pk_le 6 j (fun h => absurd h (by omega)) (fun _ => dl_yval ha hj6 ⟨pk_in (dl_pl a i j) 324 (dl_pl_lt hi hj6) (dl_py a i j), nm_r (dl_rd p (dl_py a i j) (dl_pl_lt hi hj6) (by decide)) ?_⟩)
    by_cases h : p (dl_pl a i j) = 99
    · exact br_t h (h1 (dl_ci_t h))
    · rw [dl_ci_f h] at h1 h2
      exact br_f h (nm_e (nm_r (nI_1 j) (ih (j + 1) m _ (by omega) (by omega) h1 h2)))
theorem dl_xo (post : Int32 → Prop) (o p : Nat → Int32) (a : Nat) (ha : a < 729) : ∀ (d i n : Nat) (s : Int32), i + d = 6 → d < n → post (dl_co o p a d i s) → wX_costFrom_5 post (nI a) o p n s (nI i) := by
  intro d
  induction d with
  | zero =>
    intro i n s hi hn h
    obtain ⟨m, rfl⟩ : ∃ m, n = m + 1 := ⟨n - 1, by omega⟩
    exact pk_le 6 i (fun _ => h) (fun h => absurd h (by omega))
  | succ d ih =>
    intro i n s hi hn hp
    obtain ⟨m, rfl⟩ : ∃ m, n = m + 1 := ⟨n - 1, by omega⟩
    have hi6 : i < 6 := by omega
    refine pk_le 6 i (fun h => absurd h (by omega)) (fun _ => dl_xval ha hi6 ⟨pk_in (dl_ol a i) 18 (dl_ol_lt hi6) (dl_ox a i), nm_r (dl_rd o (dl_ox a i) (dl_ol_lt hi6) (by decide)) ?_⟩)
    by_cases h : o (dl_ol a i) = 99
    · rw [dl_co_t h] at hp
      exact br_t h hp
    · rw [dl_co_f h] at hp
      refine br_f h (nm_e (nm_r (nI_1 i) ⟨7, dl_xi post _ o p a i ha hi6 d (i + 1) 7 _ (by omega) (by omega) (fun e => ?_) (fun s' e => ih (i + 1) m s' (by omega) (by omega) ?_)⟩))
      · rw [e] at hp; exact hp
      · rw [e] at hp; exact hp
theorem dl_yo (post : Int32 → Prop) (o p : Nat → Int32) (a : Nat) (ha : a < 729) : ∀ (d i n : Nat) (s : Int32), i + d = 6 → d < n → post (dl_co o p a d i s) → wY_cost_5 post (nI a) o p n s (nI i) := by
  intro d
  induction d with
  | zero =>
    intro i n s hi hn h
    obtain ⟨m, rfl⟩ : ∃ m, n = m + 1 := ⟨n - 1, by omega⟩
    exact pk_le 6 i (fun _ => h) (fun h => absurd h (by omega))
  | succ d ih =>
    intro i n s hi hn hp
    obtain ⟨m, rfl⟩ : ∃ m, n = m + 1 := ⟨n - 1, by omega⟩
    have hi6 : i < 6 := by omega
    have hv : vp_in (3 * nI i + nI (dl_dg a i)) 18 := pk_in (dl_ol a i) 18 (dl_ol_lt hi6) (dl_ox a i)
    have hr : o (3 * nI i + nI (dl_dg a i)).toNatClampNeg = o (dl_ol a i) := dl_rd o (dl_ox a i) (dl_ol_lt hi6) (by decide)
    refine pk_le 6 i (fun h => absurd h (by omega)) (fun _ => dl_yval ha hi6 ⟨hv, ?_⟩)
    by_cases h : o (dl_ol a i) = 99
    · rw [dl_co_t h] at hp
      exact br_t (hr.trans h) hp
    · rw [dl_co_f h] at hp
      refine br_f (fun z => h (hr.symm.trans z)) ⟨hv, nm_r (congrArg (fun z => s + z) hr) (nm_r (nI_1 i) ⟨7, dl_yi post _ o p a i ha hi6 d (i + 1) 7 _ (by omega) (by omega) (fun e => ?_) (fun s' e => ih (i + 1) m s' (by omega) (by omega) ?_)⟩)⟩
      · rw [e] at hp; exact hp
      · rw [e] at hp; exact hp
theorem dl_xcost {post : Int32 → Prop} {o p : Nat → Int32} {f a : Nat} (ha : a < 729) (hf : f < 6) (h : post (dl_cost o p f a)) : wpX_costFrom post (o, p) (nI f) (nI a) := ⟨7, dl_xo post o p a ha (6 - f) f 7 0 (by omega) (by omega) h⟩
theorem dl_ycost {post : Int32 → Prop} {o p : Nat → Int32} {f a : Nat} (ha : a < 729) (hf : f < 6) (h : post (dl_cost o p f a)) : wpY_cost post (o, p) (nI a) (nI f) := ⟨7, dl_yo post o p a ha (6 - f) f 7 0 (by omega) (by omega) h⟩
end
section
def dl_mn (b c : Int32) : Int32 := if b = -4 then c else if c = -4 then b else if c ≤ b then c else b
def dl_bt (c b : Int32) : Prop := ¬ c = -4 ∧ (b = -4 ∨ ¬ b ≤ c)
theorem dl_les {post : Int32 → Prop} {b c : Int32} (h : post (dl_mn b c)) : wpX_lesser post b c := by
  unfold dl_mn at h
  by_cases h1 : b = -4
  · rw [if_pos h1] at h; exact br_t h1 h
  · rw [if_neg h1] at h
    by_cases h2 : c = -4
    · rw [if_pos h2] at h; exact br_f h1 (br_t h2 h)
    · rw [if_neg h2] at h
      by_cases h3 : c ≤ b
      · rw [if_pos h3] at h; exact br_f h1 (br_f h2 (br_t h3 h))
      · rw [if_neg h3] at h; exact br_f h1 (br_f h2 (br_f h3 h))
theorem dl_isb {post : Int32 → Prop} {o p : Nat → Int32} {c b : Int32} (h0 : ¬ dl_bt c b → post 0) (h1 : dl_bt c b → post 1) : wpY_isBetter post (o, p) c b := by
  by_cases e1 : c = -4
  · exact br_t e1 (h0 (fun z => z.1 e1))
  · by_cases e2 : b = -4
    · exact br_f e1 (br_t e2 (h1 ⟨e1, Or.inl e2⟩))
    · by_cases e3 : b ≤ c
      · exact br_f e1 (br_f e2 (br_t e3 (h0 (fun z => z.2.elim e2 (fun w => w e3)))))
      · exact br_f e1 (br_f e2 (br_f e3 (h1 ⟨e1, Or.inr e3⟩)))
/-- b is the least cost other than -4 among the a < m with S a; -4 if there is none -/
def dl_L (S : Nat → Prop) (c : Nat → Int32) (m : Nat) (b : Int32) : Prop := (∀ a, a < m → S a → c a ≠ -4 → b ≠ -4 ∧ b ≤ c a) ∧ (b ≠ -4 → ∃ a, a < m ∧ S a ∧ c a = b)
theorem dl_L0 {S : Nat → Prop} {c : Nat → Int32} : dl_L S c 0 (-4) := ⟨fun a h => absurd h (Nat.not_lt_zero a), fun h => absurd rfl h⟩
theorem dl_Ln {S : Nat → Prop} {c : Nat → Int32} {m : Nat} {b : Int32} (h : dl_L S c m b) (hS : ¬ S m) : dl_L S c (m + 1) b := by
  refine ⟨fun a ha hs hc => ?_, fun hb => ?_⟩
  · by_cases e : a = m
    · subst e; exact absurd hs hS
    · exact h.1 a (by omega) hs hc
  · obtain ⟨a, ha, hs, hc⟩ := h.2 hb
    exact ⟨a, by omega, hs, hc⟩
theorem dl_Lb {S : Nat → Prop} {c : Nat → Int32} {m : Nat} {b : Int32} (h : dl_L S c m b) (hS : S m) (t : dl_bt (c m) b) : dl_L S c (m + 1) (c m) := by
  refine ⟨fun a ha hs hc => ⟨t.1, ?_⟩, fun _ => ⟨m, by omega, hS, rfl⟩⟩
  by_cases e : a = m
  · subst e; exact Int32.le_refl _
  · obtain ⟨h1, h2⟩ := h.1 a (by omega) hs hc
    rcases t.2 with t2 | t2
    · exact absurd t2 h1
    · exact Int32.le_trans (Int32.le_of_lt (Int32.not_le.mp t2)) h2
theorem dl_Lk {S : Nat → Prop} {c : Nat → Int32} {m : Nat} {b : Int32} (h : dl_L S c m b) (t : ¬ dl_bt (c m) b) : dl_L S c (m + 1) b := by
  refine ⟨fun a ha hs hc => ?_, fun hb => ?_⟩
  · by_cases e : a = m
    · subst e
      by_cases hb : b = -4
      · exact absurd ⟨hc, Or.inl hb⟩ t
      · by_cases hl : b ≤ c a
        · exact ⟨hb, hl⟩
        · exact absurd ⟨hc, Or.inr hl⟩ t
    · exact h.1 a (by omega) hs hc
  · obtain ⟨a, ha, hs, hc⟩ := h.2 hb
    exact ⟨a, by omega, hs, hc⟩
theorem dl_mnE (b c : Int32) : (dl_bt c b ∧ dl_mn b c = c) ∨ (¬ dl_bt c b ∧ dl_mn b c = b) := by
  unfold dl_mn
  by_cases h2 : c = -4
  · refine Or.inr ⟨fun z => z.1 h2, ?_⟩
    by_cases h1 : b = -4
    · rw [if_pos h1, h1, h2]
    · rw [if_neg h1, if_pos h2]
  · by_cases h1 : b = -4
    · exact Or.inl ⟨⟨h2, Or.inl h1⟩, if_pos h1⟩
    · rw [if_neg h1, if_neg h2]
      by_cases h3 : b ≤ c
      · refine Or.inr ⟨fun z => z.2.elim h1 (fun w => w h3), ?_⟩
        by_cases h4 : c ≤ b
        · rw [if_pos h4]; exact Int32.le_antisymm h4 h3
        · rw [if_neg h4]
      · exact Or.inl ⟨⟨h2, Or.inr h3⟩, if_pos (Int32.le_of_lt (Int32.not_le.mp h3))⟩
theorem dl_Ls {S : Nat → Prop} {c : Nat → Int32} {m : Nat} {b : Int32} (h : dl_L S c m b) (hS : S m) : dl_L S c (m + 1) (dl_mn b (c m)) := by
  rcases dl_mnE b (c m) with ⟨t, e⟩ | ⟨t, e⟩
  · rw [e]; exact dl_Lb h hS t
  · rw [e]; exact dl_Lk h t
theorem dl_Lu {S : Nat → Prop} {c : Nat → Int32} {m : Nat} {b b' : Int32} (h : dl_L S c m b) (h' : dl_L S c m b') : b' = b := by
  by_cases e : b = -4
  · by_cases e' : b' = -4
    · rw [e, e']
    · obtain ⟨a, ha, hs, hc⟩ := h'.2 e'
      exact absurd e (h.1 a ha hs (by rw [hc]; exact e')).1
  · obtain ⟨a, ha, hs, hc⟩ := h.2 e
    obtain ⟨q1, q2⟩ := h'.1 a ha hs (by rw [hc]; exact e)
    obtain ⟨a', ha', hs', hc'⟩ := h'.2 q1
    obtain ⟨_, q4⟩ := h.1 a' ha' hs' (by rw [hc']; exact q1)
    rw [hc] at q2
    rw [hc'] at q4
    exact Int32.le_antisymm q2 q4
theorem dl_xl (post : Int32 → Prop) (o p : Nat → Int32) (f : Nat) (hf : f < 6) (h : ∀ b, dl_L (fun _ => True) (dl_cost o p f) 729 b → post b) : ∀ (d m n : Nat) (b : Int32), m + d = 729 → d < n → dl_L (fun _ => True) (dl_cost o p f) m b → wX_leastFrom_5 post (nI f) o p n b (nI m) := by
  intro d
  induction d with
  | zero =>
    intro m n b hm hn hL
    obtain ⟨k, rfl⟩ : ∃ k, n = k + 1 := ⟨n - 1, by omega⟩
    obtain rfl : m = 729 := by omega
    exact pk_le 729 729 (fun _ => h b hL) (fun h => absurd h (by omega))
  | succ d ih =>
    intro m n b hm hn hL
    obtain ⟨k, rfl⟩ : ∃ k, n = k + 1 := ⟨n - 1, by omega⟩
    exact pk_le 729 m (fun h => absurd h (by omega)) (fun _ => dl_xcost (by omega) hf (dl_les (nm_r (nI_1 m) (ih (m + 1) k _ (by omega) (by omega) (dl_Ls hL trivial)))))
theorem dl_xleast {post : Int32 → Prop} {o p : Nat → Int32} {f : Nat} (hf : f < 6) (h : ∀ b, dl_L (fun _ => True) (dl_cost o p f) 729 b → post b) : wpX_leastFrom post (o, p) (nI f) := ⟨730, dl_xl post o p f hf h 729 0 730 (-4) (by omega) (by omega) dl_L0⟩
theorem dl_yl (post : Int32 → Prop) (o p : Nat → Int32) (f M : Nat) (hf : f < 6) (hM : M ≤ 729) (h : ∀ b, dl_L (fun _ => True) (dl_cost o p f) M b → post b) : ∀ (d m n : Nat) (b : Int32), m + d = M → d < n → dl_L (fun _ => True) (dl_cost o p f) m b → wY_doll_36 post (nI f) (nI M) o p n b (nI m) := by
  intro d
  induction d with
  | zero =>
    intro m n b hm hn hL
    obtain ⟨k, rfl⟩ : ∃ k, n = k + 1 := ⟨n - 1, by omega⟩
    obtain rfl : m = M := by omega
    exact pk_le m m (fun _ => h b hL) (fun h => absurd h (by omega))
  | succ d ih =>
    intro m n b hm hn hL
    obtain ⟨k, rfl⟩ : ∃ k, n = k + 1 := ⟨n - 1, by omega⟩
    exact pk_le M m (fun h => absurd h (by omega)) (fun _ => dl_ycost (by omega) hf (dl_isb (fun t => br_t rfl (nm_r (nI_1 m) (ih (m + 1) k _ (by omega) (by omega) (dl_Lk hL t)))) (fun t => br_f (by decide) (nm_r (nI_1 m) (ih (m + 1) k _ (by omega) (by omega) (dl_Lb hL trivial t))))))
theorem dl_yp (post : Int32 → Prop) (o p : Nat → Int32) (f : Nat) (hf : f < 6) : ∀ (d j w n : Nat), j + d = 6 → d < n → w * 3 ^ d ≤ 729 → (∃ n36 : Nat, wY_doll_36 post (nI f) (nI (w * 3 ^ d)) o p n36 (-4) 0) → wY_doll_14 post (nI f) o p n (nI w) (nI j) := by
  intro d
  induction d with
  | zero =>
    intro j w n hj hn hw h
    obtain ⟨k, rfl⟩ : ∃ k, n = k + 1 := ⟨n - 1, by omega⟩
    rw [Nat.pow_zero, Nat.mul_one] at h
    exact pk_le 6 j (fun _ => h) (fun h => absurd h (by omega))
  | succ d ih =>
    intro j w n hj hn hw h
    obtain ⟨k, rfl⟩ : ∃ k, n = k + 1 := ⟨n - 1, by omega⟩
    have e : 3 * w * 3 ^ d = w * 3 ^ (d + 1) := by
      rw [Nat.pow_succ', Nat.mul_comm 3 w, Nat.mul_assoc]
    have e3 : 3 * nI w = nI (3 * w) := by rw [show (3 : Int32) = nI 3 from rfl, pk_mul]
    exact pk_le 6 j (fun h => absurd h (by omega)) (fun _ => nm_r e3 (nm_r (nI_1 j) (ih (j + 1) (3 * w) k (by omega) (by omega) (by rw [e]; exact hw) (by rw [e]; exact h))))
theorem dl_dgm {a f i : Nat} (h : f ≤ i) (hi : i < 6) : dl_dg (a % 3 ^ (6 - f)) i = dl_dg a i := by
  have e : 3 ^ (6 - f) = 3 ^ (5 - i) * (3 * 3 ^ (i - f)) := by
    rw [← Nat.pow_succ', ← Nat.pow_add]
    exact congrArg (fun z => 3 ^ z) (by omega)
  unfold dl_dg
  rw [e, Nat.mod_mul_right_div_self, Nat.mod_mul_right_mod]
theorem dl_cic (p : Nat → Int32) (a a' i : Nat) (hd : ∀ j, i ≤ j → j < 6 → dl_dg a' j = dl_dg a j) (hi : i < 6) : ∀ (d j : Nat) (s : Int32), i ≤ j → j + d = 6 → dl_ci p a' i d j s = dl_ci p a i d j s := by
  intro d
  induction d with
  | zero => intro j s _ _; rfl
  | succ d ih =>
    intro j s h1 h2
    have e : dl_pl a' i j = dl_pl a i j := by unfold dl_pl; rw [hd i (Nat.le_refl i) hi, hd j h1 (by omega)]
    by_cases h : p (dl_pl a i j) = 99
    · rw [dl_ci_t h, dl_ci_t (by rw [e]; exact h)]
    · rw [dl_ci_f h, dl_ci_f (by rw [e]; exact h), e]
      exact ih (j + 1) _ (by omega) (by omega)
theorem dl_coc (o p : Nat → Int32) (a a' f : Nat) (hd : ∀ j, f ≤ j → j < 6 → dl_dg a' j = dl_dg a j) : ∀ (d i : Nat) (s : Int32), f ≤ i → i + d = 6 → dl_co o p a' d i s = dl_co o p a d i s := by
  intro d
  induction d with
  | zero => intro i s _ _; rfl
  | succ d ih =>
    intro i s h1 h2
    have e : dl_ol a' i = dl_ol a i := by unfold dl_ol; rw [hd i h1 (by omega)]
    by_cases h : o (dl_ol a i) = 99
    · rw [dl_co_t h, dl_co_t (by rw [e]; exact h)]
    · rw [dl_co_f h, dl_co_f (by rw [e]; exact h), e, dl_cic p a a' i (fun j g1 g2 => hd j (by omega) g2) (by omega) d (i + 1) _ (by omega) (by omega)]
      exact congrArg (fun g => Option.elim _ (-4) g) (funext (fun s' => ih (i + 1) s' (by omega) (by omega)))
theorem dl_costm (o p : Nat → Int32) {f : Nat} (hf : f < 6) (a : Nat) : dl_cost o p f (a % 3 ^ (6 - f)) = dl_cost o p f a := dl_coc o p a _ f (fun _ g1 g2 => dl_dgm g1 g2) (6 - f) f 0 (Nat.le_refl f) (by omega)
theorem dl_Lp {c : Nat → Int32} {M N : Nat} {b : Int32} (hM : 0 < M) (hMN : M ≤ N) (hc : ∀ a, c (a % M) = c a) (h : dl_L (fun _ => True) c M b) : dl_L (fun _ => True) c N b := by
  refine ⟨fun a _ _ ha => ?_, fun hb => ?_⟩
  · have q := h.1 (a % M) (Nat.mod_lt _ hM) trivial (by rw [hc]; exact ha)
    rw [hc] at q
    exact q
  · obtain ⟨a, ha, hs, e⟩ := h.2 hb
    exact ⟨a, by omega, hs, e⟩
theorem dl_p6 : ∀ f, f < 6 → 0 < 3 ^ (6 - f) ∧ 3 ^ (6 - f) ≤ 729 := by decide
theorem dl_yleast {post : Int32 → Prop} {o p : Nat → Int32} {f : Nat} (hf : f < 6) (h : ∀ b, dl_L (fun _ => True) (dl_cost o p f) 729 b → post b) : ∃ n14 : Nat, wY_doll_14 post (nI f) o p n14 1 (nI f) := by
  obtain ⟨h0, h1⟩ := dl_p6 f hf
  have q := dl_yp post o p f hf (6 - f) f 1 7 (by omega) (by omega) (by omega) ⟨730, by
    rw [Nat.one_mul]
    exact dl_yl post o p f (3 ^ (6 - f)) hf h1 (fun b hb => h b (dl_Lp h0 h1 (dl_costm o p hf) hb)) (3 ^ (6 - f)) 0 730 (-4) (by omega) (by omega) dl_L0⟩
  exact ⟨7, q⟩
end
section
theorem dl_var (v : Int32) : ((∃ i : Nat, i < 6 ∧ v = nI i) ∧ (∀ post : Int32 → Prop, post 1 → wpX_isVariable post v) ∧ (∀ (post : Int32 → Prop) (o p : Nat → Int32), post 1 → wpY_isVariable post (o, p) v)) ∨ ((∀ post : Int32 → Prop, post 0 → wpX_isVariable post v) ∧ (∀ (post : Int32 → Prop) (o p : Nat → Int32), post 0 → wpY_isVariable post (o, p) v)) := by
  by_cases h0 : v < 0
  · exact Or.inr ⟨fun _ h => br_t h0 h, fun _ _ _ h => br_t h0 h⟩
  · obtain ⟨j, hj, rfl⟩ := nI_of h0
    by_cases hl : j < 6
    · exact Or.inl ⟨⟨j, hl, rfl⟩, fun _ h => br_f h0 (pk_le 6 j (fun z => absurd z (by omega)) (fun _ => h)), fun _ _ _ h => br_f h0 (pk_lt 5 j (fun z => absurd z (by omega)) (fun _ => h))⟩
    · exact Or.inr ⟨fun _ h => br_f h0 (pk_le 6 j (fun _ => h) (fun z => absurd z (by omega))), fun _ _ _ h => br_f h0 (pk_lt 5 j (fun _ => h) (fun z => absurd z (by omega)))⟩
theorem dl_vlu (v : Int32) : ((∃ i : Nat, i < 3 ∧ v = nI i) ∧ (∀ post : Int32 → Prop, post 1 → wpX_isValue post v) ∧ (∀ (post : Int32 → Prop) (o p : Nat → Int32), post 1 → wpY_isValue post (o, p) v)) ∨ ((∀ post : Int32 → Prop, post 0 → wpX_isValue post v) ∧ (∀ (post : Int32 → Prop) (o p : Nat → Int32), post 0 → wpY_isValue post (o, p) v)) := by
  by_cases h0 : v < 0
  · exact Or.inr ⟨fun _ h => br_t h0 h, fun _ _ _ h => br_t h0 h⟩
  · obtain ⟨j, hj, rfl⟩ := nI_of h0
    by_cases hl : j < 3
    · exact Or.inl ⟨⟨j, hl, rfl⟩, fun _ h => br_f h0 (pk_le 3 j (fun z => absurd z (by omega)) (fun _ => h)), fun _ _ _ h => br_f h0 (pk_lt 2 j (fun z => absurd z (by omega)) (fun _ => h))⟩
    · exact Or.inr ⟨fun _ h => br_f h0 (pk_le 3 j (fun _ => h) (fun z => absurd z (by omega))), fun _ _ _ h => br_f h0 (pk_lt 2 j (fun _ => h) (fun z => absurd z (by omega)))⟩
theorem dl_pr (v : Int32) : ((∃ i : Nat, i < 36 ∧ v = nI i) ∧ (∀ post : Int32 → Prop, post 1 → wpX_isPair post v) ∧ (∀ (post : Int32 → Prop) (o p : Nat → Int32), post 1 → wpY_isPair post (o, p) v)) ∨ ((∀ post : Int32 → Prop, post 0 → wpX_isPair post v) ∧ (∀ (post : Int32 → Prop) (o p : Nat → Int32), post 0 → wpY_isPair post (o, p) v)) := by
  by_cases h0 : v < 0
  · exact Or.inr ⟨fun _ h => br_t h0 h, fun _ _ _ h => br_t h0 h⟩
  · obtain ⟨j, hj, rfl⟩ := nI_of h0
    by_cases hl : j < 36
    · by_cases hc : nI j - nI j / 6 * 6 ≤ nI j / 6
      · exact Or.inr ⟨fun _ h => br_f h0 (pk_le 36 j (fun z => absurd z (by omega)) (fun _ => ⟨by decide, by decide, br_t hc h⟩)), fun _ _ _ h => br_f h0 (pk_lt 35 j (fun z => absurd z (by omega)) (fun _ => ⟨by decide, by decide, br_t hc h⟩))⟩
      · exact Or.inl ⟨⟨j, hl, rfl⟩, fun _ h => br_f h0 (pk_le 36 j (fun z => absurd z (by omega)) (fun _ => ⟨by decide, by decide, br_f hc h⟩)), fun _ _ _ h => br_f h0 (pk_lt 35 j (fun z => absurd z (by omega)) (fun _ => ⟨by decide, by decide, br_f hc h⟩))⟩
    · exact Or.inr ⟨fun _ h => br_f h0 (pk_le 36 j (fun _ => h) (fun z => absurd z (by omega))), fun _ _ _ h => br_f h0 (pk_lt 35 j (fun _ => h) (fun z => absurd z (by omega)))⟩
theorem dl_ct (v : Int32) : ((∀ post : Int32 → Prop, post 1 → wpX_isCost post v) ∧ (∀ (post : Int32 → Prop) (o p : Nat → Int32), post 1 → wpY_isCost post (o, p) v)) ∨ ((∀ post : Int32 → Prop, post 0 → wpX_isCost post v) ∧ (∀ (post : Int32 → Prop) (o p : Nat → Int32), post 0 → wpY_isCost post (o, p) v)) := by
  by_cases h9 : v = 99
  · subst h9
    exact Or.inl ⟨fun _ h => br_t rfl h, fun _ _ _ h => br_f (by decide) (br_f (by decide) (br_t rfl h))⟩
  · by_cases h0 : v < 0
    · exact Or.inr ⟨fun _ h => br_f h9 (br_t h0 h), fun _ _ _ h => br_t h0 (br_f h9 h)⟩
    · by_cases h3 : v ≤ 30
      · exact Or.inl ⟨fun _ h => br_f h9 (br_f h0 (br_f (Int32.not_lt.mpr h3) h)), fun _ _ _ h => br_f h0 (br_t h3 h)⟩
      · exact Or.inr ⟨fun _ h => br_f h9 (br_f h0 (br_t (Int32.not_le.mp h3) h)), fun _ _ _ h => br_f h0 (br_f h3 (br_f h9 h))⟩
end
section
/-- r is the number of the first of the cheapest assignments; -4 if all are barred -/
def dl_F (c : Nat → Int32) (m : Nat) (b r : Int32) : Prop := (b = -4 ∧ r = -4 ∧ ∀ a, a < m → c a = -4) ∨ (∃ f, f < m ∧ r = nI f ∧ b = c f ∧ c f ≠ -4 ∧ (∀ a, a < m → c a ≠ -4 → c f ≤ c a) ∧ ∀ a, a < f → c a ≠ c f)
theorem dl_F0 {c : Nat → Int32} : dl_F c 0 (-4) (-4) := Or.inl ⟨rfl, rfl, fun a h => absurd h (Nat.not_lt_zero a)⟩
theorem dl_n4 {f : Nat} (h : f < 729) : nI f ≠ -4 := fun e => by
  have q := nI_toInt (n := f) (by omega)
  rw [e] at q
  have z : (-4 : Int32).toInt = -4 := by decide
  rw [z] at q
  omega
theorem dl_Fb {c : Nat → Int32} {m : Nat} {b r : Int32} (h : dl_F c m b r) (t : dl_bt (c m) b) : dl_F c (m + 1) (c m) (nI m) := by
  refine Or.inr ⟨m, by omega, rfl, rfl, t.1, fun a ha hc => ?_, fun a ha e => ?_⟩
  · by_cases e : a = m
    · subst e; exact Int32.le_refl _
    · rcases h with ⟨_, _, h3⟩ | ⟨f, h1, h2, h3, h4, h5, h6⟩
      · exact absurd (h3 a (by omega)) hc
      · rcases t.2 with t2 | t2
        · exact absurd (h3.symm.trans t2) h4
        · rw [h3] at t2
          exact Int32.le_trans (Int32.le_of_lt (Int32.not_le.mp t2)) (h5 a (by omega) hc)
  · rcases h with ⟨_, _, h3⟩ | ⟨f, h1, h2, h3, h4, h5, h6⟩
    · exact t.1 (e.symm.trans (h3 a ha))
    · rcases t.2 with t2 | t2
      · exact absurd (h3.symm.trans t2) h4
      · rw [h3, ← e] at t2
        exact t2 (h5 a ha (by rw [e]; exact t.1))
theorem dl_Fk {c : Nat → Int32} {m : Nat} {b r : Int32} (h : dl_F c m b r) (t : ¬ dl_bt (c m) b) : dl_F c (m + 1) b r := by
  rcases h with ⟨h1, h2, h3⟩ | ⟨f, h1, h2, h3, h4, h5, h6⟩
  · refine Or.inl ⟨h1, h2, fun a ha => ?_⟩
    by_cases e : a = m
    · subst e
      by_cases q : c a = -4
      · exact q
      · exact absurd ⟨q, Or.inl h1⟩ t
    · exact h3 a (by omega)
  · refine Or.inr ⟨f, by omega, h2, h3, h4, fun a ha hc => ?_, h6⟩
    by_cases e : a = m
    · subst e
      by_cases q : c f ≤ c a
      · exact q
      · exact absurd ⟨hc, Or.inr (by rw [h3]; exact q)⟩ t
    · exact h5 a (by omega) hc
theorem dl_Fu {c : Nat → Int32} {m : Nat} {b b' r r' : Int32} (h : dl_F c m b r) (h' : dl_F c m b' r') : r' = r := by
  rcases h with ⟨_, h2, h3⟩ | ⟨f, h1, h2, h3, h4, h5, h6⟩
  · rcases h' with ⟨_, k2, _⟩ | ⟨g, k1, k2, k3, k4, k5, k6⟩
    · rw [h2, k2]
    · exact absurd (h3 g k1) k4
  · rcases h' with ⟨_, k2, k3⟩ | ⟨g, k1, k2, k3, k4, k5, k6⟩
    · exact absurd (k3 f h1) h4
    · have e : c f = c g := Int32.le_antisymm (h5 g k1 k4) (k5 f h1 h4)
      have q : f = g := by
        rcases Nat.lt_trichotomy f g with l | l | l
        · exact absurd e (k6 f l)
        · exact l
        · exact absurd e.symm (h6 g l)
      rw [h2, k2, q]
theorem dl_yf (post : Int32 → Prop) (o p : Nat → Int32) (h : ∀ b r, dl_F (dl_cost o p 0) 729 b r → post r) : ∀ (d m n : Nat) (b r : Int32), m + d = 729 → d < n → dl_F (dl_cost o p 0) m b r → wY_first_8 post o p n b r (nI m) := by
  intro d
  induction d with
  | zero =>
    intro m n b r hm hn hF
    obtain ⟨k, rfl⟩ : ∃ k, n = k + 1 := ⟨n - 1, by omega⟩
    obtain rfl : m = 729 := by omega
    exact pk_le 729 729 (fun _ => h b r hF) (fun h => absurd h (by omega))
  | succ d ih =>
    intro m n b r hm hn hF
    obtain ⟨k, rfl⟩ : ∃ k, n = k + 1 := ⟨n - 1, by omega⟩
    exact pk_le 729 m (fun h => absurd h (by omega)) (fun _ => dl_ycost (f := 0) (by omega) (by decide) (dl_isb (fun t => br_t rfl (nm_r (nI_1 m) (ih (m + 1) k _ _ (by omega) (by omega) (dl_Fk hF t)))) (fun t => br_f (by decide) (nm_r (nI_1 m) (ih (m + 1) k _ _ (by omega) (by omega) (dl_Fb hF t))))))
theorem dl_yfirst {post : Int32 → Prop} {o p : Nat → Int32} (h : ∀ b r, dl_F (dl_cost o p 0) 729 b r → post r) : wpY_first post (o, p) := ⟨730, dl_yf post o p h 729 0 730 (-4) (-4) (by omega) (by omega) dl_F0⟩
theorem dl_xf (post : Int32 → Prop) (o p : Nat → Int32) (b : Int32) (hb : b ≠ -4) (hL : dl_L (fun _ => True) (dl_cost o p 0) 729 b) (h : ∀ b r, dl_F (dl_cost o p 0) 729 b r → post r) : ∀ (d m n : Nat), m + d = 729 → d < n → (∀ a, a < m → dl_cost o p 0 a ≠ b) → wX_firstCheapest_17 post b o p n (nI m) := by
  intro d
  induction d with
  | zero =>
    intro m n hm hn hF
    obtain ⟨a, ha, _, e⟩ := hL.2 hb
    exact absurd e (hF a (by omega))
  | succ d ih =>
    intro m n hm hn hF
    obtain ⟨k, rfl⟩ : ∃ k, n = k + 1 := ⟨n - 1, by omega⟩
    refine pk_le 729 m (fun h => absurd h (by omega)) (fun _ => dl_xcost (f := 0) (by omega) (by decide) ?_)
    by_cases e : dl_cost o p 0 m = b
    · exact br_t e (h b (nI m) (Or.inr ⟨m, by omega, rfl, e.symm, by rw [e]; exact hb, fun a ha hc => by rw [e]; exact (hL.1 a ha trivial hc).2, fun a ha => by rw [e]; exact hF a ha⟩))
    · refine br_f e (nm_r (nI_1 m) (ih (m + 1) k (by omega) (by omega) (fun a ha => ?_)))
      by_cases q : a = m
      · rw [q]; exact e
      · exact hF a (by omega)
theorem dl_xfirst {post : Int32 → Prop} {o p : Nat → Int32} (h : ∀ b r, dl_F (dl_cost o p 0) 729 b r → post r) : wpX_firstCheapest post (o, p) := by
  refine dl_xleast (f := 0) (by decide) (fun b hL => ?_)
  by_cases e : b = -4
  · refine br_t e (h b (-4) (Or.inl ⟨e, rfl, fun a ha => ?_⟩))
    by_cases q : dl_cost o p 0 a = -4
    · exact q
    · exact absurd e (hL.1 a ha trivial q).1
  · exact br_f e ⟨730, dl_xf post o p b e hL h 729 0 730 (by omega) (by omega) (fun a ha => absurd ha (Nat.not_lt_zero a))⟩
end
section
theorem dl_xw (post : Int32 → Prop) (o p : Nat → Int32) (i x : Nat) (hi : i < 6) (hx : x < 3) (h : ∀ b, dl_L (fun a => dl_dg a i = x) (dl_cost o p 0) 729 b → post b) : ∀ (d m n : Nat) (b : Int32), m + d = 729 → d < n → dl_L (fun a => dl_dg a i = x) (dl_cost o p 0) m b → wX_with_22 post (nI i) (nI x) o p n b (nI m) := by
  intro d
  induction d with
  | zero =>
    intro m n b hm hn hL
    obtain ⟨k, rfl⟩ : ∃ k, n = k + 1 := ⟨n - 1, by omega⟩
    obtain rfl : m = 729 := by omega
    exact pk_le 729 729 (fun _ => h b hL) (fun h => absurd h (by omega))
  | succ d ih =>
    intro m n b hm hn hL
    obtain ⟨k, rfl⟩ : ∃ k, n = k + 1 := ⟨n - 1, by omega⟩
    have h3 := dl_dg3 m i
    exact pk_le 729 m (fun h => absurd h (by omega)) (fun _ => dl_xval (by omega) hi (pk_eq (dl_dg m i) x (fun e => dl_xcost (f := 0) (by omega) (by decide) (dl_les (nm_r (nI_1 m) (ih (m + 1) k _ (by omega) (by omega) (dl_Ls hL e))))) (fun e => nm_r (nI_1 m) (ih (m + 1) k _ (by omega) (by omega) (dl_Ln hL e)))))
theorem dl_yw (post : Int32 → Prop) (o p : Nat → Int32) (i x : Nat) (hi : i < 6) (hx : x < 3) (h : ∀ b, dl_L (fun a => dl_dg a i = x) (dl_cost o p 0) 729 b → post b) : ∀ (d m n : Nat) (b : Int32), m + d = 729 → d < n → dl_L (fun a => dl_dg a i = x) (dl_cost o p 0) m b → wY_with_24 post (nI i) (nI x) o p n b (nI m) := by
  intro d
  induction d with
  | zero =>
    intro m n b hm hn hL
    obtain ⟨k, rfl⟩ : ∃ k, n = k + 1 := ⟨n - 1, by omega⟩
    obtain rfl : m = 729 := by omega
    exact pk_le 729 729 (fun _ => h b hL) (fun h => absurd h (by omega))
  | succ d ih =>
    intro m n b hm hn hL
    obtain ⟨k, rfl⟩ : ∃ k, n = k + 1 := ⟨n - 1, by omega⟩
    have h3 := dl_dg3 m i
    exact pk_le 729 m (fun h => absurd h (by omega)) (fun _ => dl_yval (by omega) hi (pk_eq (dl_dg m i) x (fun e => dl_ycost (f := 0) (by omega) (by decide) (dl_isb (fun t => br_t rfl (nm_r (nI_1 m) (ih (m + 1) k _ (by omega) (by omega) (dl_Lk hL t)))) (fun t => br_f (by decide) (nm_r (nI_1 m) (ih (m + 1) k _ (by omega) (by omega) (dl_Lb hL e t)))))) (fun e => nm_r (nI_1 m) (ih (m + 1) k _ (by omega) (by omega) (dl_Ln hL e)))))
/-- r is no number below 729, or the number of g -/
theorem dl_xs (post : Int32 → Prop) (o p : Nat → Int32) (r : Int32) (h : ∀ b, dl_L (fun a => ¬ nI a = r) (dl_cost o p 0) 729 b → post b) : ∀ (d m n : Nat) (b : Int32), m + d = 729 → d < n → dl_L (fun a => ¬ nI a = r) (dl_cost o p 0) m b → wX_second_10 post r o p n b (nI m) := by
  intro d
  induction d with
  | zero =>
    intro m n b hm hn hL
    obtain ⟨k, rfl⟩ : ∃ k, n = k + 1 := ⟨n - 1, by omega⟩
    obtain rfl : m = 729 := by omega
    exact pk_le 729 729 (fun _ => h b hL) (fun h => absurd h (by omega))
  | succ d ih =>
    intro m n b hm hn hL
    obtain ⟨k, rfl⟩ : ∃ k, n = k + 1 := ⟨n - 1, by omega⟩
    exact pk_le 729 m (fun h => absurd h (by omega)) (fun _ => br_c (fun e => nm_r (nI_1 m) (ih (m + 1) k _ (by omega) (by omega) (dl_Ln hL (fun z => z e)))) (fun e => dl_xcost (f := 0) (by omega) (by decide) (dl_les (nm_r (nI_1 m) (ih (m + 1) k _ (by omega) (by omega) (dl_Ls hL e))))))
theorem dl_ys (post : Int32 → Prop) (o p : Nat → Int32) (r : Int32) (h : ∀ b, dl_L (fun a => ¬ nI a = r) (dl_cost o p 0) 729 b → post b) : ∀ (d m n : Nat) (b : Int32), m + d = 729 → d < n → dl_L (fun a => ¬ nI a = r) (dl_cost o p 0) m b → wY_second_10 post r o p n b (nI m) := by
  intro d
  induction d with
  | zero =>
    intro m n b hm hn hL
    obtain ⟨k, rfl⟩ : ∃ k, n = k + 1 := ⟨n - 1, by omega⟩
    obtain rfl : m = 729 := by omega
    exact pk_le 729 729 (fun _ => h b hL) (fun h => absurd h (by omega))
  | succ d ih =>
    intro m n b hm hn hL
    obtain ⟨k, rfl⟩ : ∃ k, n = k + 1 := ⟨n - 1, by omega⟩
    exact pk_le 729 m (fun h => absurd h (by omega)) (fun _ => br_c (fun e => nm_r (nI_1 m) (ih (m + 1) k _ (by omega) (by omega) (dl_Ln hL (fun z => z e)))) (fun e => dl_ycost (f := 0) (by omega) (by decide) (dl_isb (fun t => br_t rfl (nm_r (nI_1 m) (ih (m + 1) k _ (by omega) (by omega) (dl_Lk hL t)))) (fun t => br_f (by decide) (nm_r (nI_1 m) (ih (m + 1) k _ (by omega) (by omega) (dl_Lb hL e t)))))))
/-- neighbours differ from variable j on -/
def dl_Z (a j : Nat) : Prop := ∀ i, j ≤ i → i < 5 → dl_dg a i ≠ dl_dg a (i + 1)
theorem dl_Z5 {a j : Nat} (h : 5 ≤ j) : dl_Z a j := fun i h1 h2 => absurd h1 (by omega)
theorem dl_Zt {a j : Nat} (h : j < 5) (e : dl_dg a j = dl_dg a (j + 1)) : ¬ dl_Z a j := fun z => z j (Nat.le_refl j) h e
theorem dl_Zf {a j : Nat} (e : dl_dg a j ≠ dl_dg a (j + 1)) : dl_Z a j ↔ dl_Z a (j + 1) := by
  refine ⟨fun z i h1 h2 => z i (by omega) h2, fun z i h1 h2 => ?_⟩
  by_cases q : i = j
  · rw [q]; exact e
  · exact z i (by omega) h2
theorem dl_xn (post : Int32 → Prop) (a : Nat) (ha : a < 729) : ∀ (d j n : Nat), j + d = 5 → d < n → (dl_Z a j → post 1) → (¬ dl_Z a j → post 0) → wX_neighboursDiffer_2 post (nI a) n (nI j) := by
  intro d
  induction d with
  | zero =>
    intro j n hj hn h1 h0
    obtain ⟨k, rfl⟩ : ∃ k, n = k + 1 := ⟨n - 1, by omega⟩
    exact pk_le 5 j (fun _ => h1 (dl_Z5 (by omega))) (fun h => absurd h (by omega))
  | succ d ih =>
    intro j n hj hn h1 h0
    obtain ⟨k, rfl⟩ : ∃ k, n = k + 1 := ⟨n - 1, by omega⟩
    have q1 := dl_dg3 a j
    have q2 := dl_dg3 a (j + 1)
    refine pk_le 5 j (fun h => absurd h (by omega)) (fun _ => dl_xval ha (by omega) ?_)
    rw [nI_1 j]
    exact dl_xval ha (by omega) (pk_eq (dl_dg a j) (dl_dg a (j + 1)) (fun e => h0 (dl_Zt (by omega) e)) (fun e => nm_e (ih (j + 1) k (by omega) (by omega) (fun z => h1 ((dl_Zf e).mpr z)) (fun z => h0 (fun w => z ((dl_Zf e).mp w))))))
theorem dl_yn (post : Int32 → Prop) (o p : Nat → Int32) (a : Nat) (ha : a < 729) : ∀ (d j n : Nat), j + d = 5 → d < n → (dl_Z a j → post 1) → (¬ dl_Z a j → post 0) → wY_isZigzag_2 post (nI a) o p n (nI j) := by
  intro d
  induction d with
  | zero =>
    intro j n hj hn h1 h0
    obtain ⟨k, rfl⟩ : ∃ k, n = k + 1 := ⟨n - 1, by omega⟩
    exact pk_le 5 j (fun _ => h1 (dl_Z5 (by omega))) (fun h => absurd h (by omega))
  | succ d ih =>
    intro j n hj hn h1 h0
    obtain ⟨k, rfl⟩ : ∃ k, n = k + 1 := ⟨n - 1, by omega⟩
    have q1 := dl_dg3 a j
    have q2 := dl_dg3 a (j + 1)
    refine pk_le 5 j (fun h => absurd h (by omega)) (fun _ => dl_yval ha (by omega) ?_)
    rw [nI_1 j]
    exact dl_yval ha (by omega) (pk_eq (dl_dg a j) (dl_dg a (j + 1)) (fun e => h0 (dl_Zt (by omega) e)) (fun e => nm_e (ih (j + 1) k (by omega) (by omega) (fun z => h1 ((dl_Zf e).mpr z)) (fun z => h0 (fun w => z ((dl_Zf e).mp w))))))
theorem dl_xnd {post : Int32 → Prop} {a : Nat} (ha : a < 729) (h1 : dl_Z a 0 → post 1) (h0 : ¬ dl_Z a 0 → post 0) : wpX_neighboursDiffer post (nI a) := ⟨6, dl_xn post a ha 5 0 6 (by omega) (by omega) h1 h0⟩
theorem dl_ynd {post : Int32 → Prop} {o p : Nat → Int32} {a : Nat} (ha : a < 729) (h1 : dl_Z a 0 → post 1) (h0 : ¬ dl_Z a 0 → post 0) : wpY_isZigzag post (o, p) (nI a) := ⟨6, dl_yn post o p a ha 5 0 6 (by omega) (by omega) h1 h0⟩
theorem dl_xz (post : Int32 → Prop) (o p : Nat → Int32) (h : ∀ b, dl_L (fun a => dl_Z a 0) (dl_cost o p 0) 729 b → post b) : ∀ (d m n : Nat) (b : Int32), m + d = 729 → d < n → dl_L (fun a => dl_Z a 0) (dl_cost o p 0) m b → wX_zigzag_5 post o p n b (nI m) := by
  intro d
  induction d with
  | zero =>
    intro m n b hm hn hL
    obtain ⟨k, rfl⟩ : ∃ k, n = k + 1 := ⟨n - 1, by omega⟩
    obtain rfl : m = 729 := by omega
    exact pk_le 729 729 (fun _ => h b hL) (fun h => absurd h (by omega))
  | succ d ih =>
    intro m n b hm hn hL
    obtain ⟨k, rfl⟩ : ∃ k, n = k + 1 := ⟨n - 1, by omega⟩
    exact pk_le 729 m (fun h => absurd h (by omega)) (fun _ => dl_xnd (by omega) (fun e => br_f (by decide) (dl_xcost (f := 0) (by omega) (by decide) (dl_les (nm_r (nI_1 m) (ih (m + 1) k _ (by omega) (by omega) (dl_Ls hL e)))))) (fun e => br_t rfl (nm_r (nI_1 m) (ih (m + 1) k _ (by omega) (by omega) (dl_Ln hL e)))))
theorem dl_yz (post : Int32 → Prop) (o p : Nat → Int32) (h : ∀ b, dl_L (fun a => dl_Z a 0) (dl_cost o p 0) 729 b → post b) : ∀ (d m n : Nat) (b : Int32), m + d = 729 → d < n → dl_L (fun a => dl_Z a 0) (dl_cost o p 0) m b → wY_zigzag_5 post o p n b (nI m) := by
  intro d
  induction d with
  | zero =>
    intro m n b hm hn hL
    obtain ⟨k, rfl⟩ : ∃ k, n = k + 1 := ⟨n - 1, by omega⟩
    obtain rfl : m = 729 := by omega
    exact pk_le 729 729 (fun _ => h b hL) (fun h => absurd h (by omega))
  | succ d ih =>
    intro m n b hm hn hL
    obtain ⟨k, rfl⟩ : ∃ k, n = k + 1 := ⟨n - 1, by omega⟩
    exact pk_le 729 m (fun h => absurd h (by omega)) (fun _ => dl_ynd (by omega) (fun e => br_f (by decide) (dl_ycost (f := 0) (by omega) (by decide) (dl_isb (fun t => br_t rfl (nm_r (nI_1 m) (ih (m + 1) k _ (by omega) (by omega) (dl_Lk hL t)))) (fun t => br_f (by decide) (nm_r (nI_1 m) (ih (m + 1) k _ (by omega) (by omega) (dl_Lb hL e t))))))) (fun e => br_t rfl (nm_r (nI_1 m) (ih (m + 1) k _ (by omega) (by omega) (dl_Ln hL e)))))
end
section
/-- another value of variable i stands in an assignment from m on that costs L -/
def dl_D (c : Nat → Int32) (i x : Nat) (L : Int32) (m : Nat) : Prop := ∃ a, m ≤ a ∧ a < 729 ∧ dl_dg a i ≠ x ∧ c a = L
theorem dl_D1 {c : Nat → Int32} {i x : Nat} {L : Int32} {m : Nat} (h : ¬ (dl_dg m i ≠ x ∧ c m = L)) : dl_D c i x L m ↔ dl_D c i x L (m + 1) := by
  refine ⟨fun ⟨a, h1, h2, h3, h4⟩ => ⟨a, ?_, h2, h3, h4⟩, fun ⟨a, h1, h2, h3, h4⟩ => ⟨a, by omega, h2, h3, h4⟩⟩
  by_cases q : a = m
  · subst q; exact absurd ⟨h3, h4⟩ h
  · omega
theorem dl_xt (post : Int32 → Prop) (o p : Nat → Int32) (i x : Nat) (L : Int32) (hi : i < 6) (hx : x < 3) : ∀ (d m n : Nat), m + d = 729 → d < n → (dl_D (dl_cost o p 0) i x L m → post 0) → (¬ dl_D (dl_cost o p 0) i x L m → post 1) → wX_settled_41 post (nI i) L (nI x) o p n (nI m) := by
  intro d
  induction d with
  | zero =>
    intro m n hm hn h0 h1
    obtain ⟨k, rfl⟩ : ∃ k, n = k + 1 := ⟨n - 1, by omega⟩
    exact pk_le 729 m (fun _ => h1 (fun ⟨a, g1, g2, _, _⟩ => absurd g1 (by omega))) (fun h => absurd h (by omega))
  | succ d ih =>
    intro m n hm hn h0 h1
    obtain ⟨k, rfl⟩ : ∃ k, n = k + 1 := ⟨n - 1, by omega⟩
    have h3 := dl_dg3 m i
    have nx : ¬ (dl_dg m i ≠ x ∧ dl_cost o p 0 m = L) → wX_settled_41 post (nI i) L (nI x) o p k (nI (m + 1)) := fun g => ih (m + 1) k (by omega) (by omega) (fun z => h0 ((dl_D1 g).mpr z)) (fun z => h1 (fun w => z ((dl_D1 g).mp w)))
    exact pk_le 729 m (fun h => absurd h (by omega)) (fun _ => dl_xval (by omega) hi (pk_eq (dl_dg m i) x (fun e => nm_r (nI_1 m) (nx (fun z => z.1 e))) (fun e => dl_xcost (f := 0) (by omega) (by decide) (br_c (fun w => h0 ⟨m, Nat.le_refl m, by omega, e, w⟩) (fun w => nm_r (nI_1 m) (nx (fun z => w z.2)))))))
/-- value x of variable i stands in a cheapest assignment -/
def dl_H (c : Nat → Int32) (i : Nat) (L : Int32) (x : Nat) : Prop := ∃ a, a < 729 ∧ dl_dg a i = x ∧ c a = L
theorem dl_wH {c : Nat → Int32} {i x : Nat} {L w : Int32} (hL : dl_L (fun _ => True) c 729 L) (hne : L ≠ -4) (hw : dl_L (fun a => dl_dg a i = x) c 729 w) : w = L ↔ dl_H c i L x := by
  refine ⟨fun e => ?_, fun ⟨a, h1, h2, h3⟩ => ?_⟩
  · obtain ⟨a, h1, h2, h3⟩ := hw.2 (by rw [e]; exact hne)
    exact ⟨a, h1, h2, by rw [h3]; exact e⟩
  · obtain ⟨q1, q2⟩ := hw.1 a h1 h2 (by rw [h3]; exact hne)
    obtain ⟨b, k1, k2, k3⟩ := hw.2 q1
    have q3 := (hL.1 b k1 trivial (by rw [k3]; exact q1)).2
    rw [k3] at q3
    rw [h3] at q2
    exact Int32.le_antisymm q2 q3
theorem dl_ywith {post : Int32 → Prop} {o p : Nat → Int32} {i x : Nat} (hi : i < 6) (hx : x < 3) (h : ∀ b, dl_L (fun a => dl_dg a i = x) (dl_cost o p 0) 729 b → post b) : wpY_with post (o, p) (nI i) (nI x) := by
  rcases dl_var (nI i) with ⟨_, _, v⟩ | ⟨_, v⟩
  · rcases dl_vlu (nI x) with ⟨_, _, w⟩ | ⟨_, w⟩
    · unfold wpY_with
      refine v _ o p ?_
      refine br_f (by decide) ?_
      refine w _ o p ?_
      refine br_f (by decide) ?_
      exact ⟨730, dl_yw post o p i x hi hx h 729 0 730 (-4) (by omega) (by omega) dl_L0⟩
    · exact absurd (w (fun r => r = 0) o p rfl) (fun z => by
        have a := z.2 (nI_pos (by omega))
        exact absurd (a.2 (nI_nlt (b := x) (a := 2) (by omega) (by decide))) (by decide))
  · exact absurd (v (fun r => r = 0) o p rfl) (fun z => by
      have a := z.2 (nI_pos (by omega))
      exact absurd (a.2 (nI_nlt (b := i) (a := 5) (by omega) (by decide))) (by decide))
theorem dl_ytl (post : Int32 → Prop) (o p : Nat → Int32) (i : Nat) (L : Int32) (hi : i < 6) (hL : dl_L (fun _ => True) (dl_cost o p 0) 729 L) (hne : L ≠ -4) (x k : Nat) (s : Int32) (hx : x < 3) (h1 : dl_H (dl_cost o p 0) i L x → wY_settled_26 post (nI i) L o p k (s + 1) (nI (x + 1))) (h0 : ¬ dl_H (dl_cost o p 0) i L x → wY_settled_26 post (nI i) L o p k s (nI (x + 1))) : wY_settled_26 post (nI i) L o p (k + 1) s (nI x) :=
  pk_le 3 x (fun h => absurd h (by omega)) (fun _ => dl_ywith hi hx (fun w hw => br_c (fun e => nm_e (nm_r (nI_1 x) (h1 ((dl_wH hL hne hw).mp e)))) (fun e => nm_r (nI_1 x) (h0 (fun z => e ((dl_wH hL hne hw).mpr z))))))
theorem dl_yend1 {post : Int32 → Prop} {i : Int32} {o p : Nat → Int32} {L : Int32} {k : Nat} {s : Int32} (e : s = 1) (h : post 1) : wY_settled_26 post i L o p (k + 1) s (nI 3) := pk_le 3 3 (fun _ => br_t e h) (fun h => absurd h (by omega))
theorem dl_yend0 {post : Int32 → Prop} {i : Int32} {o p : Nat → Int32} {L : Int32} {k : Nat} {s : Int32} (e : ¬ s = 1) (h : post 0) : wY_settled_26 post i L o p (k + 1) s (nI 3) := pk_le 3 3 (fun _ => br_f e h) (fun h => absurd h (by omega))
/-- r says whether exactly one value of i stands in cheapest assignments -/
theorem dl_yt {post : Int32 → Prop} {o p : Nat → Int32} {i f : Nat} (hi : i < 6) (hf : f < 729) (hL : dl_L (fun _ => True) (dl_cost o p 0) 729 (dl_cost o p 0 f)) (hne : dl_cost o p 0 f ≠ -4) (h1 : (∀ a, a < 729 → dl_cost o p 0 a = dl_cost o p 0 f → dl_dg a i = dl_dg f i) → post 1) (h0 : ¬ (∀ a, a < 729 → dl_cost o p 0 a = dl_cost o p 0 f → dl_dg a i = dl_dg f i) → post 0) : wY_settled_26 post (nI i) (dl_cost o p 0 f) o p 4 0 0 := by
  have two : ∀ x y, x ≠ y → dl_H (dl_cost o p 0) i (dl_cost o p 0 f) x → dl_H (dl_cost o p 0) i (dl_cost o p 0 f) y → post 0 := by
    intro x y hxy ⟨a, a1, a2, a3⟩ ⟨b, b1, b2, b3⟩
    refine h0 (fun z => ?_)
    have q1 := z a a1 a3
    have q2 := z b b1 b3
    omega
  have one : ∀ x y z, (∀ w, w < 3 → w = x ∨ w = y ∨ w = z) → ¬ dl_H (dl_cost o p 0) i (dl_cost o p 0 f) y → ¬ dl_H (dl_cost o p 0) i (dl_cost o p 0 f) z → post 1 := by
    intro x y z hc ny nz
    have g : ∀ a, a < 729 → dl_cost o p 0 a = dl_cost o p 0 f → dl_dg a i = x := by
      intro a ha e
      rcases hc _ (dl_dg3 a i) with q | q | q
      · exact q
      · exact absurd ⟨a, ha, q, e⟩ ny
      · exact absurd ⟨a, ha, q, e⟩ nz
    exact h1 (fun a ha e => (g a ha e).trans (g f hf rfl).symm)
  have non : ¬ dl_H (dl_cost o p 0) i (dl_cost o p 0 f) 0 → ¬ dl_H (dl_cost o p 0) i (dl_cost o p 0 f) 1 → ¬ dl_H (dl_cost o p 0) i (dl_cost o p 0 f) 2 → False := by
    intro n0 n1 n2
    have q := dl_dg3 f i
    have w : dl_H (dl_cost o p 0) i (dl_cost o p 0 f) (dl_dg f i) := ⟨f, hf, rfl, rfl⟩
    have c : dl_dg f i = 0 ∨ dl_dg f i = 1 ∨ dl_dg f i = 2 := by omega
    rcases c with c | c | c <;> rw [c] at w
    · exact n0 w
    · exact n1 w
    · exact n2 w
  exact dl_ytl post o p i _ hi hL hne 0 3 0 (by decide)
    (fun a0 => dl_ytl post o p i _ hi hL hne 1 2 _ (by decide)
      (fun a1 => dl_ytl post o p i _ hi hL hne 2 1 _ (by decide)
        (fun _ => dl_yend0 (by decide) (two 0 1 (by decide) a0 a1))
        (fun _ => dl_yend0 (by decide) (two 0 1 (by decide) a0 a1)))
      (fun b1 => dl_ytl post o p i _ hi hL hne 2 1 _ (by decide)
        (fun a2 => dl_yend0 (by decide) (two 0 2 (by decide) a0 a2))
        (fun b2 => dl_yend1 (by decide) (one 0 1 2 (by omega) b1 b2))))
    (fun b0 => dl_ytl post o p i _ hi hL hne 1 2 _ (by decide)
      (fun a1 => dl_ytl post o p i _ hi hL hne 2 1 _ (by decide)
        (fun a2 => dl_yend0 (by decide) (two 1 2 (by decide) a1 a2))
        (fun b2 => dl_yend1 (by decide) (one 1 0 2 (by omega) b0 b2)))
      (fun b1 => dl_ytl post o p i _ hi hL hne 2 1 _ (by decide)
        (fun _ => dl_yend1 (by decide) (one 2 0 1 (by omega) b0 b1))
        (fun b2 => (non b0 b1 b2).elim)))
end
section
theorem dl_rel (o : Nat → Int32) (q : Nat) (sm c w : Int32) (hq : q < 36) (hw : (sm = 0 ∧ w = 0) ∨ (¬ sm = 0 ∧ w = 1)) : ∀ (d j : Nat) (p : Nat → Int32), j + d = 9 → ∃ p' : Nat → Int32, (∀ (post : Int32 → SX → Prop) (n : Nat), d < n → post 0 (o, p') → wX_relate_30 post (nI q) c w n (nI j) o p) ∧ (∀ (post : Int32 → SY → Prop) (n : Nat), d < n → post 0 (o, p') → wY_relate_21 post (nI q) sm c n (nI j) o p) := by
  intro d
  induction d with
  | zero =>
    intro j p hj
    refine ⟨p, fun post n hn h => ?_, fun post n hn h => ?_⟩
    · obtain ⟨k, rfl⟩ : ∃ k, n = k + 1 := ⟨n - 1, by omega⟩
      exact pk_le 9 j (fun _ => h) (fun h => absurd h (by omega))
    · obtain ⟨k, rfl⟩ : ∃ k, n = k + 1 := ⟨n - 1, by omega⟩
      exact pk_le 9 j (fun _ => h) (fun h => absurd h (by omega))
  | succ d ih =>
    intro j p hj
    have hin : vp_in (9 * nI q + nI j) 324 := pk_in (9 * q + j) 324 (by omega) (by rw [show (9 : Int32) = nI 9 from rfl, pk_mul, nI_add])
    obtain ⟨pk, kX, kY⟩ := ih (j + 1) p (by omega)
    obtain ⟨pu, uX, uY⟩ := ih (j + 1) (upd p (9 * nI q + nI j).toNatClampNeg c) (by omega)
    by_cases t : nI j / 3 = nI j - nI j / 3 * 3
    · rcases hw with ⟨e, rfl⟩ | ⟨e, rfl⟩
      · refine ⟨pk, fun post n hn h => ?_, fun post n hn h => ?_⟩
        · obtain ⟨k, rfl⟩ : ∃ k, n = k + 1 := ⟨n - 1, by omega⟩
          exact pk_le 9 j (fun h => absurd h (by omega)) (fun _ => ⟨by decide, by decide, br_t t (br_f (by decide) (nm_r (nI_1 j) (kX post k (by omega) h)))⟩)
        · obtain ⟨k, rfl⟩ : ∃ k, n = k + 1 := ⟨n - 1, by omega⟩
          exact pk_le 9 j (fun h => absurd h (by omega)) (fun _ => ⟨by decide, by decide, br_t t (br_t e (br_f (by decide) (nm_r (nI_1 j) (kY post k (by omega) h))))⟩)
      · refine ⟨pu, fun post n hn h => ?_, fun post n hn h => ?_⟩
        · obtain ⟨k, rfl⟩ : ∃ k, n = k + 1 := ⟨n - 1, by omega⟩
          exact pk_le 9 j (fun h => absurd h (by omega)) (fun _ => ⟨by decide, by decide, br_t t (br_t rfl ⟨hin, nm_e (nm_r (nI_1 j) (uX post k (by omega) h))⟩)⟩)
        · obtain ⟨k, rfl⟩ : ∃ k, n = k + 1 := ⟨n - 1, by omega⟩
          exact pk_le 9 j (fun h => absurd h (by omega)) (fun _ => ⟨by decide, by decide, br_t t (br_f e (br_t rfl ⟨hin, nm_e (nm_r (nI_1 j) (uY post k (by omega) h))⟩))⟩)
    · rcases hw with ⟨e, rfl⟩ | ⟨e, rfl⟩
      · refine ⟨pu, fun post n hn h => ?_, fun post n hn h => ?_⟩
        · obtain ⟨k, rfl⟩ : ∃ k, n = k + 1 := ⟨n - 1, by omega⟩
          exact pk_le 9 j (fun h => absurd h (by omega)) (fun _ => ⟨by decide, by decide, br_f t (br_t rfl ⟨hin, nm_e (nm_r (nI_1 j) (uX post k (by omega) h))⟩)⟩)
        · obtain ⟨k, rfl⟩ : ∃ k, n = k + 1 := ⟨n - 1, by omega⟩
          exact pk_le 9 j (fun h => absurd h (by omega)) (fun _ => ⟨by decide, by decide, br_f t (br_t e (br_t rfl ⟨hin, nm_e (nm_r (nI_1 j) (uY post k (by omega) h))⟩))⟩)
      · refine ⟨pk, fun post n hn h => ?_, fun post n hn h => ?_⟩
        · obtain ⟨k, rfl⟩ : ∃ k, n = k + 1 := ⟨n - 1, by omega⟩
          exact pk_le 9 j (fun h => absurd h (by omega)) (fun _ => ⟨by decide, by decide, br_f t (br_f (by decide) (nm_r (nI_1 j) (kX post k (by omega) h)))⟩)
        · obtain ⟨k, rfl⟩ : ∃ k, n = k + 1 := ⟨n - 1, by omega⟩
          exact pk_le 9 j (fun h => absurd h (by omega)) (fun _ => ⟨by decide, by decide, br_f t (br_f e (br_f (by decide) (nm_r (nI_1 j) (kY post k (by omega) h))))⟩)
theorem dl_clp (o : Nat → Int32) : ∀ (d j : Nat) (p : Nat → Int32), j + d = 324 → ∃ p' : Nat → Int32, (∀ (post : SX → Prop) (n : Nat), d < n → post (o, p') → wX_clear_23 post n (nI j) o p) ∧ (∀ (post : SY → Prop) (n : Nat), d < n → post (o, p') → wY_clear_23 post n (nI j) o p) := by
  intro d
  induction d with
  | zero =>
    intro j p hj
    refine ⟨p, fun post n hn h => ?_, fun post n hn h => ?_⟩
    · obtain ⟨k, rfl⟩ : ∃ k, n = k + 1 := ⟨n - 1, by omega⟩
      exact pk_le 324 j (fun _ => h) (fun h => absurd h (by omega))
    · obtain ⟨k, rfl⟩ : ∃ k, n = k + 1 := ⟨n - 1, by omega⟩
      exact pk_le 324 j (fun _ => h) (fun h => absurd h (by omega))
  | succ d ih =>
    intro j p hj
    have hin : vp_in (nI j) 324 := vp_in_nI (by omega) (by decide)
    obtain ⟨pu, uX, uY⟩ := ih (j + 1) (upd p (nI j).toNatClampNeg 0) (by omega)
    refine ⟨pu, fun post n hn h => ?_, fun post n hn h => ?_⟩
    · obtain ⟨k, rfl⟩ : ∃ k, n = k + 1 := ⟨n - 1, by omega⟩
      exact pk_le 324 j (fun h => absurd h (by omega)) (fun _ => ⟨hin, nm_e (nm_r (nI_1 j) (uX post k (by omega) h))⟩)
    · obtain ⟨k, rfl⟩ : ∃ k, n = k + 1 := ⟨n - 1, by omega⟩
      exact pk_le 324 j (fun h => absurd h (by omega)) (fun _ => ⟨hin, nm_e (nm_r (nI_1 j) (uY post k (by omega) h))⟩)
theorem dl_clo (p : Nat → Int32) : ∀ (d j : Nat) (o : Nat → Int32), j + d = 18 → ∃ o' : Nat → Int32, (∀ (post : SX → Prop) (n : Nat), d < n → (∃ n23 : Nat, wX_clear_23 post n23 0 o' p) → wX_clear_2 post n (nI j) o p) ∧ (∀ (post : SY → Prop) (n : Nat), d < n → (∃ n23 : Nat, wY_clear_23 post n23 0 o' p) → wY_clear_2 post n (nI j) o p) := by
  intro d
  induction d with
  | zero =>
    intro j o hj
    refine ⟨o, fun post n hn h => ?_, fun post n hn h => ?_⟩
    · obtain ⟨k, rfl⟩ : ∃ k, n = k + 1 := ⟨n - 1, by omega⟩
      exact pk_le 18 j (fun _ => h) (fun h => absurd h (by omega))
    · obtain ⟨k, rfl⟩ : ∃ k, n = k + 1 := ⟨n - 1, by omega⟩
      exact pk_le 18 j (fun _ => h) (fun h => absurd h (by omega))
  | succ d ih =>
    intro j o hj
    have hin : vp_in (nI j) 18 := vp_in_nI (by omega) (by decide)
    obtain ⟨ou, uX, uY⟩ := ih (j + 1) (upd o (nI j).toNatClampNeg 0) (by omega)
    refine ⟨ou, fun post n hn h => ?_, fun post n hn h => ?_⟩
    · obtain ⟨k, rfl⟩ : ∃ k, n = k + 1 := ⟨n - 1, by omega⟩
      exact pk_le 18 j (fun h => absurd h (by omega)) (fun _ => ⟨hin, nm_e (nm_r (nI_1 j) (uX post k (by omega) h))⟩)
    · obtain ⟨k, rfl⟩ : ∃ k, n = k + 1 := ⟨n - 1, by omega⟩
      exact pk_le 18 j (fun h => absurd h (by omega)) (fun _ => ⟨hin, nm_e (nm_r (nI_1 j) (uY post k (by omega) h))⟩)
end
section
/-- the two states hold the same two tables -/
def i_Rel (_ : Nat) (u : SX) (v : SY) : Prop := u = v
theorem i_up {k : Nat} {u : SX} {v : SY} (h : i_Rel k u v) : i_Rel (k + 4) u v := h
theorem i_vc0 : wpX_init (fun u => wpY_init (fun v => i_Rel 0 u v)) := rfl
theorem i_vc_own {k : Nat} {u : SX} {v : SY} (I : i_Rel k u v) (hk : k + 4 ≤ 2048) (v1 : Int32) (v2 : Int32) (v3 : Int32) : wpX_own (fun r u' => wpY_own (fun r' v' => r' = r ∧ i_Rel (k + 4) u' v') v v1 v2 v3) u v1 v2 v3 := by
  cases I
  obtain ⟨o, p⟩ := u
  unfold wpX_own wpY_own
  rcases dl_var v1 with ⟨⟨i, hi, rfl⟩, aX, aY⟩ | ⟨aX, aY⟩
  · refine aX _ ?_
    refine br_f (by decide) ?_
    rcases dl_vlu v2 with ⟨⟨x, hx, rfl⟩, bX, bY⟩ | ⟨bX, bY⟩
    · refine bX _ ?_
      refine br_f (by decide) ?_
      rcases dl_ct v3 with ⟨cX, cY⟩ | ⟨cX, cY⟩
      · have hin : vp_in (3 * nI i + nI x) 18 := pk_in (3 * i + x) 18 (by omega) (by rw [show (3 : Int32) = nI 3 from rfl, pk_mul, nI_add])
        refine cX _ ?_
        refine br_f (by decide) (nm_e ⟨hin, nm_e ⟨hin, nm_e ?_⟩⟩)
        refine aY _ o p ?_
        refine br_f (by decide) ?_
        refine bY _ o p ?_
        refine br_f (by decide) ?_
        refine cY _ o p ?_
        exact br_f (by decide) ⟨hin, nm_e ⟨hin, nm_e ⟨rfl, rfl⟩⟩⟩
      · refine cX _ ?_
        refine br_t rfl ?_
        refine aY _ o p ?_
        refine br_f (by decide) ?_
        refine bY _ o p ?_
        refine br_f (by decide) ?_
        refine cY _ o p ?_
        exact br_t rfl ⟨rfl, rfl⟩
    · refine bX _ ?_
      refine br_t rfl ?_
      refine aY _ o p ?_
      refine br_f (by decide) ?_
      refine bY _ o p ?_
      exact br_t rfl ⟨rfl, rfl⟩
  · refine aX _ ?_
    refine br_t rfl ?_
    refine aY _ o p ?_
    exact br_t rfl ⟨rfl, rfl⟩
theorem i_vc_pair {k : Nat} {u : SX} {v : SY} (I : i_Rel k u v) (hk : k + 4 ≤ 2048) (v1 : Int32) (v2 : Int32) (v3 : Int32) : wpX_pair (fun r u' => wpY_pair (fun r' v' => r' = r ∧ i_Rel (k + 4) u' v') v v1 v2 v3) u v1 v2 v3 := by
  cases I
  obtain ⟨o, p⟩ := u
  unfold wpX_pair wpY_pair
  rcases dl_pr v1 with ⟨⟨q, hq, rfl⟩, aX, aY⟩ | ⟨aX, aY⟩
  · refine aX _ ?_
    refine br_f (by decide) ?_
    by_cases h0 : v2 < 0
    · refine br_t h0 ?_
      refine aY _ o p ?_
      exact br_f (by decide) (br_t h0 ⟨rfl, rfl⟩)
    · obtain ⟨j, hj, rfl⟩ := nI_of h0
      by_cases h9 : j < 9
      · have n9 : ¬ (9 : Int32) ≤ nI j := nI_ge (b := 9) h9 (by decide)
        have n8 : ¬ (8 : Int32) < nI j := nI_nlt (b := j) (a := 8) (by omega) (by decide)
        refine br_f h0 (br_f n9 ?_)
        rcases dl_ct v3 with ⟨cX, cY⟩ | ⟨cX, cY⟩
        · have hin : vp_in (9 * nI q + nI j) 324 := pk_in (9 * q + j) 324 (by omega) (by rw [show (9 : Int32) = nI 9 from rfl, pk_mul, nI_add])
          refine cX _ ?_
          refine br_f (by decide) (nm_e ⟨hin, nm_e ⟨hin, nm_e ?_⟩⟩)
          refine aY _ o p ?_
          refine br_f (by decide) (br_f h0 (br_f n8 ?_))
          refine cY _ o p ?_
          exact br_f (by decide) ⟨hin, nm_e ⟨hin, nm_e ⟨rfl, rfl⟩⟩⟩
        · refine cX _ ?_
          refine br_t rfl ?_
          refine aY _ o p ?_
          refine br_f (by decide) (br_f h0 (br_f n8 ?_))
          refine cY _ o p ?_
          exact br_t rfl ⟨rfl, rfl⟩
      · have n9 : (9 : Int32) ≤ nI j := nI_le (a := 9) (by omega) hj
        have n8 : (8 : Int32) < nI j := nI_lt (a := 8) (by omega) hj
        refine br_f h0 (br_t n9 ?_)
        refine aY _ o p ?_
        exact br_f (by decide) (br_f h0 (br_t n8 ⟨rfl, rfl⟩))
  · refine aX _ ?_
    refine br_t rfl ?_
    refine aY _ o p ?_
    exact br_t rfl ⟨rfl, rfl⟩
theorem i_vc_relate {k : Nat} {u : SX} {v : SY} (I : i_Rel k u v) (hk : k + 4 ≤ 2048) (v1 : Int32) (v2 : Int32) (v3 : Int32) : wpX_relate (fun r u' => wpY_relate (fun r' v' => r' = r ∧ i_Rel (k + 4) u' v') v v1 v2 v3) u v1 v2 v3 := by
  cases I
  obtain ⟨o, p⟩ := u
  unfold wpX_relate wpY_relate
  rcases dl_pr v1 with ⟨⟨q, hq, rfl⟩, aX, aY⟩ | ⟨aX, aY⟩
  · refine aX _ ?_
    refine br_f (by decide) ?_
    rcases dl_ct v3 with ⟨cX, cY⟩ | ⟨cX, cY⟩
    · refine cX _ ?_
      refine br_f (by decide) ?_
      by_cases h0 : v2 = 0
      · obtain ⟨p', eX, eY⟩ := dl_rel o q v2 v3 0 hq (Or.inl ⟨h0, rfl⟩) 9 0 p (by omega)
        refine br_t h0 ⟨10, eX _ 10 (by omega) ?_⟩
        refine aY _ o p ?_
        refine br_f (by decide) ?_
        refine cY _ o p ?_
        exact br_f (by decide) ⟨10, eY _ 10 (by omega) ⟨rfl, rfl⟩⟩
      · obtain ⟨p', eX, eY⟩ := dl_rel o q v2 v3 1 hq (Or.inr ⟨h0, rfl⟩) 9 0 p (by omega)
        refine br_f h0 ⟨10, eX _ 10 (by omega) ?_⟩
        refine aY _ o p ?_
        refine br_f (by decide) ?_
        refine cY _ o p ?_
        exact br_f (by decide) ⟨10, eY _ 10 (by omega) ⟨rfl, rfl⟩⟩
    · refine cX _ ?_
      refine br_t rfl ?_
      refine aY _ o p ?_
      refine br_f (by decide) ?_
      refine cY _ o p ?_
      exact br_t rfl ⟨rfl, rfl⟩
  · refine aX _ ?_
    refine br_t rfl ?_
    refine aY _ o p ?_
    exact br_t rfl ⟨rfl, rfl⟩
theorem i_vc_clear {k : Nat} {u : SX} {v : SY} (I : i_Rel k u v) (hk : k + 4 ≤ 2048) : wpX_clear (fun u' => wpY_clear (fun v' => i_Rel (k + 4) u' v') v) u := by
  cases I
  obtain ⟨o, p⟩ := u
  obtain ⟨o', oX, oY⟩ := dl_clo p 18 0 o (by omega)
  obtain ⟨p', pX, pY⟩ := dl_clp o' 324 0 p (by omega)
  exact ⟨19, oX _ 19 (by omega) ⟨325, pX _ 325 (by omega) ⟨19, oY _ 19 (by omega) ⟨325, pY _ 325 (by omega) rfl⟩⟩⟩⟩
theorem i_vc_doll {k : Nat} {u : SX} {v : SY} (I : i_Rel k u v) (hk : k + 4 ≤ 2048) (v1 : Int32) : wpX_doll (fun r => wpY_doll (fun r' => r' = r ∧ i_Rel (k + 4) u v) v v1) u v1 := by
  cases I
  obtain ⟨o, p⟩ := u
  unfold wpX_doll wpY_doll
  rcases dl_var v1 with ⟨⟨i, hi, rfl⟩, aX, aY⟩ | ⟨aX, aY⟩
  · refine aX _ ?_
    refine br_f (by decide) ?_
    refine dl_xleast hi (fun b hb => ?_)
    refine aY _ o p ?_
    exact br_f (by decide) (dl_yleast hi (fun b' hb' => ⟨dl_Lu hb hb', rfl⟩))
  · refine aX _ ?_
    refine br_t rfl ?_
    refine aY _ o p ?_
    exact br_t rfl ⟨rfl, rfl⟩
theorem dl_ych {post : Int32 → Prop} {o p : Nat → Int32} (h : ∀ b, dl_L (fun _ => True) (dl_cost o p 0) 729 b → post b) : wpY_cheapest post (o, p) := by
  unfold wpY_cheapest wpY_doll
  refine br_f (by decide) (br_f (by decide) ?_)
  refine br_f (by decide) ?_
  exact dl_yleast (f := 0) (by decide) h
theorem i_vc_cheapest {k : Nat} {u : SX} {v : SY} (I : i_Rel k u v) (hk : k + 4 ≤ 2048) : wpX_cheapest (fun r => wpY_cheapest (fun r' => r' = r ∧ i_Rel (k + 4) u v) v) u := by
  cases I
  obtain ⟨o, p⟩ := u
  unfold wpX_cheapest
  exact dl_xleast (f := 0) (by decide) (fun b hb => dl_ych (fun b' hb' => ⟨dl_Lu hb hb', rfl⟩))
theorem i_vc_value {k : Nat} {u : SX} {v : SY} (I : i_Rel k u v) (hk : k + 4 ≤ 2048) (v1 : Int32) : wpX_value (fun r => wpY_value (fun r' => r' = r ∧ i_Rel (k + 4) u v) v v1) u v1 := by
  cases I
  obtain ⟨o, p⟩ := u
  unfold wpX_value wpY_value
  rcases dl_var v1 with ⟨⟨i, hi, rfl⟩, aX, aY⟩ | ⟨aX, aY⟩
  · refine aX _ ?_
    refine br_f (by decide) ?_
    refine dl_xfirst (fun b r hr => ?_)
    rcases hr with ⟨h1, h2, h3⟩ | ⟨f, h1, h2, h3, h4⟩
    · refine br_t h2 ?_
      refine aY _ o p ?_
      refine br_f (by decide) ?_
      refine dl_yfirst (fun b' r' hr' => ?_)
      exact br_t ((dl_Fu (Or.inl ⟨h1, h2, h3⟩) hr').trans h2) ⟨rfl, rfl⟩
    · have n4 : ¬ r = -4 := fun z => dl_n4 h1 (h2.symm.trans z)
      refine br_f n4 ?_
      rw [h2]
      refine dl_xval h1 hi ?_
      refine aY _ o p ?_
      refine br_f (by decide) ?_
      refine dl_yfirst (fun b' r' hr' => ?_)
      have e : r' = r := dl_Fu (Or.inr ⟨f, h1, h2, h3, h4⟩) hr'
      refine br_f (fun z => n4 (e.symm.trans z)) ?_
      rw [e, h2]
      exact dl_yval h1 hi ⟨rfl, rfl⟩
  · refine aX _ ?_
    refine br_t rfl ?_
    refine aY _ o p ?_
    exact br_t rfl ⟨rfl, rfl⟩
theorem i_vc_with {k : Nat} {u : SX} {v : SY} (I : i_Rel k u v) (hk : k + 4 ≤ 2048) (v1 : Int32) (v2 : Int32) : wpX_with (fun r => wpY_with (fun r' => r' = r ∧ i_Rel (k + 4) u v) v v1 v2) u v1 v2 := by
  cases I
  obtain ⟨o, p⟩ := u
  unfold wpX_with wpY_with
  rcases dl_var v1 with ⟨⟨i, hi, rfl⟩, aX, aY⟩ | ⟨aX, aY⟩
  · refine aX _ ?_
    refine br_f (by decide) ?_
    rcases dl_vlu v2 with ⟨⟨x, hx, rfl⟩, bX, bY⟩ | ⟨bX, bY⟩
    · refine bX _ ?_
      refine br_f (by decide) ⟨730, dl_xw _ o p i x hi hx (fun b hb => ?_) 729 0 730 (-4) (by omega) (by omega) dl_L0⟩
      refine aY _ o p ?_
      refine br_f (by decide) ?_
      refine bY _ o p ?_
      exact br_f (by decide) ⟨730, dl_yw _ o p i x hi hx (fun b' hb' => ⟨dl_Lu hb hb', rfl⟩) 729 0 730 (-4) (by omega) (by omega) dl_L0⟩
    · refine bX _ ?_
      refine br_t rfl ?_
      refine aY _ o p ?_
      refine br_f (by decide) ?_
      refine bY _ o p ?_
      exact br_t rfl ⟨rfl, rfl⟩
  · refine aX _ ?_
    refine br_t rfl ?_
    refine aY _ o p ?_
    exact br_t rfl ⟨rfl, rfl⟩
theorem i_vc_settled {k : Nat} {u : SX} {v : SY} (I : i_Rel k u v) (hk : k + 4 ≤ 2048) (v1 : Int32) : wpX_settled (fun r => wpY_settled (fun r' => r' = r ∧ i_Rel (k + 4) u v) v v1) u v1 := by
  cases I
  obtain ⟨o, p⟩ := u
  unfold wpX_settled wpY_settled
  rcases dl_var v1 with ⟨⟨i, hi, rfl⟩, aX, aY⟩ | ⟨aX, aY⟩
  · refine aX _ ?_
    refine br_f (by decide) ?_
    refine dl_xfirst (fun b r hr => ?_)
    rcases hr with ⟨_, h2, h3⟩ | ⟨f, h1, h2, _, h4, h5, h6⟩
    · refine br_t h2 ?_
      refine dl_ych (fun L hL => ?_)
      refine aY _ o p ?_
      refine br_f (by decide) (br_t ?_ ⟨rfl, rfl⟩)
      by_cases e : L = -4
      · exact e
      · obtain ⟨a, ha, _, q⟩ := hL.2 e
        exact absurd (q.symm.trans (h3 a ha)) e
    · have hLf : dl_L (fun _ => True) (dl_cost o p 0) 729 (dl_cost o p 0 f) := ⟨fun a ha _ hc => ⟨h4, h5 a ha hc⟩, fun _ => ⟨f, h1, trivial, rfl⟩⟩
      refine br_f (fun z => dl_n4 h1 (h2.symm.trans z)) ?_
      rw [h2]
      refine dl_xcost (f := 0) h1 (by decide) ?_
      refine dl_xval h1 hi (nm_r (nI_1 f) ⟨730, dl_xt _ o p i (dl_dg f i) (dl_cost o p 0 f) hi (dl_dg3 f i) (728 - f) (f + 1) 730 (by omega) (by omega) (fun hD => ?_) (fun hD => ?_)⟩)
      · refine dl_ych (fun L hL => ?_)
        obtain rfl : L = dl_cost o p 0 f := dl_Lu hLf hL
        refine aY _ o p ?_
        refine br_f (by decide) (br_f h4 ⟨4, dl_yt hi h1 hLf h4 (fun z => ?_) (fun _ => ⟨rfl, rfl⟩)⟩)
        obtain ⟨a, _, a2, a3, a4⟩ := hD
        exact absurd (z a a2 a4) a3
      · refine dl_ych (fun L hL => ?_)
        obtain rfl : L = dl_cost o p 0 f := dl_Lu hLf hL
        refine aY _ o p ?_
        refine br_f (by decide) (br_f h4 ⟨4, dl_yt hi h1 hLf h4 (fun _ => ⟨rfl, rfl⟩) (fun z => absurd (fun a ha e => ?_) z)⟩)
        by_cases q : dl_dg a i = dl_dg f i
        · exact q
        · rcases Nat.lt_trichotomy a f with l | l | l
          · exact absurd e (h6 a l)
          · rw [l]
          · exact absurd ⟨a, l, ha, q, e⟩ hD
  · refine aX _ ?_
    refine br_t rfl ?_
    refine dl_ych (fun L hL => ?_)
    refine aY _ o p ?_
    exact br_t rfl ⟨rfl, rfl⟩
theorem i_vc_second {k : Nat} {u : SX} {v : SY} (I : i_Rel k u v) (hk : k + 4 ≤ 2048) : wpX_second (fun r => wpY_second (fun r' => r' = r ∧ i_Rel (k + 4) u v) v) u := by
  cases I
  obtain ⟨o, p⟩ := u
  unfold wpX_second wpY_second
  refine dl_xfirst (fun b r hr => ?_)
  refine ⟨730, dl_xs _ o p r (fun w hw => ?_) 729 0 730 (-4) (by omega) (by omega) dl_L0⟩
  refine dl_yfirst (fun b' r' hr' => ?_)
  have e : r' = r := dl_Fu hr hr'
  rw [e]
  exact ⟨730, dl_ys _ o p r (fun w' hw' => ⟨dl_Lu hw hw', rfl⟩) 729 0 730 (-4) (by omega) (by omega) dl_L0⟩
theorem i_vc_zigzag {k : Nat} {u : SX} {v : SY} (I : i_Rel k u v) (hk : k + 4 ≤ 2048) : wpX_zigzag (fun r => wpY_zigzag (fun r' => r' = r ∧ i_Rel (k + 4) u v) v) u := by
  cases I
  obtain ⟨o, p⟩ := u
  exact ⟨730, dl_xz _ o p (fun w hw => ⟨730, dl_yz _ o p (fun w' hw' => ⟨dl_Lu hw hw', rfl⟩) 729 0 730 (-4) (by omega) (by omega) dl_L0⟩) 729 0 730 (-4) (by omega) (by omega) dl_L0⟩
end
