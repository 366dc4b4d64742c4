/-- the place of a pair's cost -/
def dl_pl (a i j : Nat) : Nat := 9 * (6 * i + j) + (3 * dl_dg a i + dl_dg a j)
/-- the place of an own cost -/
def dl_ol (a i : Nat) : Nat := 3 * i + dl_dg a i
def dl_ci (p : Nat → Int32) (a i : Nat) : Nat → Nat → Int32 → Option Int32
  | 0, _, s => some s
  | d + 1, j, s => if p (dl_pl a i j) = 99 then none else dl_ci p a i d (j + 1) (s + p (dl_pl a i j))
def dl_co (o p : Nat → Int32) (a : Nat) : Nat → Nat → Int32 → Int32
  | 0, _, s => s
  | d + 1, i, s => if o (dl_ol a i) = 99 then -4 else (dl_ci p a i d (i + 1) (s + o (dl_ol a i))).elim (-4) (fun s' => dl_co o p a d (i + 1) s')
/-- the cost of the variables from f on, under the assignment a; -4 where it is barred -/
def dl_cost (o p : Nat → Int32) (f a : Nat) : Int32 := dl_co o p a (6 - f) f 0
theorem dl_nlt {q : Nat} (h : q < 2 ^ 31) (x : Int32) (e : x = nI q) : x.toNatClampNeg = q := by rw [e]; exact nI_clamp h
theorem dl_vx (a i j : Nat) : 3 * nI (dl_dg a i) + nI (dl_dg a j) = nI (3 * dl_dg a i + dl_dg a j) := by
  rw [show (3 : Int32) = nI 3 from rfl, pk_mul, nI_add]
theorem dl_px (a i j : Nat) : 9 * (6 * nI i + nI j) + nI (3 * dl_dg a i + dl_dg a j) = nI (dl_pl a i j) := by
  rw [show (9 : Int32) = nI 9 from rfl, show (6 : Int32) = nI 6 from rfl, pk_mul, nI_add, pk_mul, nI_add]
  rfl
theorem dl_py (a i j : Nat) : 9 * (6 * nI i + nI j) + 3 * nI (dl_dg a i) + nI (dl_dg a j) = nI (dl_pl a i j) := by
  rw [show (9 : Int32) = nI 9 from rfl, show (6 : Int32) = nI 6 from rfl, show (3 : Int32) = nI 3 from rfl, pk_mul, nI_add, pk_mul, pk_mul, nI_add, nI_add]
  exact congrArg nI (by unfold dl_pl; omega)
theorem dl_ox (a i : Nat) : 3 * nI i + nI (dl_dg a i) = nI (dl_ol a i) := by
  rw [show (3 : Int32) = nI 3 from rfl, pk_mul, nI_add]
  rfl
theorem dl_pl_lt {a i j : Nat} (hi : i < 6) (hj : j < 6) : dl_pl a i j < 324 := by
  have h1 := dl_dg3 a i
  have h2 := dl_dg3 a j
  unfold dl_pl
  omega
theorem dl_ol_lt {a i : Nat} (hi : i < 6) : dl_ol a i < 18 := by
  have h1 := dl_dg3 a i
  unfold dl_ol
  omega
theorem dl_rd (f : Nat → Int32) {x : Int32} {q N : Nat} (e : x = nI q) (h : q < N) (hN : N < 2 ^ 31) : f x.toNatClampNeg = f q := congrArg f (dl_nlt (by omega) x e)
theorem dl_ci_t {p : Nat → Int32} {a i d j : Nat} {s : Int32} (h : p (dl_pl a i j) = 99) : dl_ci p a i (d + 1) j s = none := if_pos h
theorem dl_ci_f {p : Nat → Int32} {a i d j : Nat} {s : Int32} (h : ¬ p (dl_pl a i j) = 99) : dl_ci p a i (d + 1) j s = dl_ci p a i d (j + 1) (s + p (dl_pl a i j)) := if_neg h
theorem dl_co_t {o p : Nat → Int32} {a d i : Nat} {s : Int32} (h : o (dl_ol a i) = 99) : dl_co o p a (d + 1) i s = -4 := if_pos h
theorem dl_co_f {o p : Nat → Int32} {a d i : Nat} {s : Int32} (h : ¬ o (dl_ol a i) = 99) : dl_co o p a (d + 1) i s = (dl_ci p a i d (i + 1) (s + o (dl_ol a i))).elim (-4) (fun s' => dl_co o p a d (i + 1) s') := if_neg h
theorem dl_xi (post : Int32 → Prop) (J : Int32 → Int32 → Prop) (o p : Nat → Int32) (a i : Nat) (ha : a < 729) (hi : i < 6) : ∀ (d j n : Nat) (s : Int32), j + d = 6 → d < n → (dl_ci p a i d j s = none → post (-4)) → (∀ s', dl_ci p a i d j s = some s' → J s' (nI (i + 1))) → wX_costFrom_55 post J (nI a) (nI i) (nI (dl_dg a i)) o p n s (nI j) := by
  intro d
  induction d with
  | zero =>
    intro j n s hj hn h1 h2
    obtain ⟨m, rfl⟩ : ∃ m, n = m + 1 := ⟨n - 1, by omega⟩
    exact pk_le 6 j (fun _ => nm_r (nI_1 i) (h2 s rfl)) (fun h => absurd h (by omega))
  | succ d ih =>
    intro j n s hj hn h1 h2
    obtain ⟨m, rfl⟩ : ∃ m, n = m + 1 := ⟨n - 1, by omega⟩
    have hj6 : j < 6 := by omega
    refine pk_le 6 j (fun h => absurd h (by omega)) (fun _ => dl_xval ha hj6 (nm_r (dl_vx a i j) ⟨pk_in (dl_pl a i j) 324 (dl_pl_lt hi hj6) (dl_px a i j), nm_r (dl_rd p (dl_px a i j) (dl_pl_lt hi hj6) (by decide)) ?_⟩))
    by_cases h : p (dl_pl a i j) = 99
    · exact br_t h (h1 (dl_ci_t h))
    · rw [dl_ci_f h] at h1 h2
      exact br_f h (nm_e (nm_r (nI_1 j) (ih (j + 1) m _ (by omega) (by omega) h1 h2)))
theorem dl_yi (post : Int32 → Prop) (J : Int32 → Int32 → Prop) (o p : Nat → Int32) (a i : Nat) (ha : a < 729) (hi : i < 6) : ∀ (d j n : Nat) (s : Int32), j + d = 6 → d < n → (dl_ci p a i d j s = none → post (-4)) → (∀ s', dl_ci p a i d j s = some s' → J s' (nI (i + 1))) → wY_cost_62 post J (nI a) (nI i) (nI (dl_dg a i)) o p n s (nI j) := by
  intro d
  induction d with
  | zero =>
    intro j n s hj hn h1 h2
    obtain ⟨m, rfl⟩ : ∃ m, n = m + 1 := ⟨n - 1, by omega⟩
    exact pk_le 6 j (fun _ => nm_r (nI_1 i) (h2 s rfl)) (fun h => absurd h (by omega))
  | succ d ih =>
    intro j n s hj hn h1 h2
    obtain ⟨m, rfl⟩ : ∃ m, n = m + 1 := ⟨n - 1, by omega⟩
    have hj6 : j < 6 := by omega
    refine pk_le 6 j (fun h => absurd h (by omega)) (fun _ => dl_yval ha hj6 ⟨pk_in (dl_pl a i j) 324 (dl_pl_lt hi hj6) (dl_py a i j), nm_r (dl_rd p (dl_py a i j) (dl_pl_lt hi hj6) (by decide)) ?_⟩)
    by_cases h : p (dl_pl a i j) = 99
    · exact br_t h (h1 (dl_ci_t h))
    · rw [dl_ci_f h] at h1 h2
      exact br_f h (nm_e (nm_r (nI_1 j) (ih (j + 1) m _ (by omega) (by omega) h1 h2)))
theorem dl_xo (post : Int32 → Prop) (o p : Nat → Int32) (a : Nat) (ha : a < 729) : ∀ (d i n : Nat) (s : Int32), i + d = 6 → d < n → post (dl_co o p a d i s) → wX_costFrom_5 post (nI a) o p n s (nI i) := by
  intro d
  induction d with
  | zero =>
    intro i n s hi hn h
    obtain ⟨m, rfl⟩ : ∃ m, n = m + 1 := ⟨n - 1, by omega⟩
    exact pk_le 6 i (fun _ => h) (fun h => absurd h (by omega))
  | succ d ih =>
    intro i n s hi hn hp
    obtain ⟨m, rfl⟩ : ∃ m, n = m + 1 := ⟨n - 1, by omega⟩
    have hi6 : i < 6 := by omega
    refine pk_le 6 i (fun h => absurd h (by omega)) (fun _ => dl_xval ha hi6 ⟨pk_in (dl_ol a i) 18 (dl_ol_lt hi6) (dl_ox a i), nm_r (dl_rd o (dl_ox a i) (dl_ol_lt hi6) (by decide)) ?_⟩)
    by_cases h : o (dl_ol a i) = 99
    · rw [dl_co_t h] at hp
      exact br_t h hp
    · rw [dl_co_f h] at hp
      refine br_f h (nm_e (nm_r (nI_1 i) ⟨7, dl_xi post _ o p a i ha hi6 d (i + 1) 7 _ (by omega) (by omega) (fun e => ?_) (fun s' e => ih (i + 1) m s' (by omega) (by omega) ?_)⟩))
      · rw [e] at hp; exact hp
      · rw [e] at hp; exact hp
theorem dl_yo (post : Int32 → Prop) (o p : Nat → Int32) (a : Nat) (ha : a < 729) : ∀ (d i n : Nat) (s : Int32), i + d = 6 → d < n → post (dl_co o p a d i s) → wY_cost_5 post (nI a) o p n s (nI i) := by
  intro d
  induction d with
  | zero =>
    intro i n s hi hn h
    obtain ⟨m, rfl⟩ : ∃ m, n = m + 1 := ⟨n - 1, by omega⟩
    exact pk_le 6 i (fun _ => h) (fun h => absurd h (by omega))
  | succ d ih =>
    intro i n s hi hn hp
    obtain ⟨m, rfl⟩ : ∃ m, n = m + 1 := ⟨n - 1, by omega⟩
    have hi6 : i < 6 := by omega
    have hv : vp_in (3 * nI i + nI (dl_dg a i)) 18 := pk_in (dl_ol a i) 18 (dl_ol_lt hi6) (dl_ox a i)
    have hr : o (3 * nI i + nI (dl_dg a i)).toNatClampNeg = o (dl_ol a i) := dl_rd o (dl_ox a i) (dl_ol_lt hi6) (by decide)
    refine pk_le 6 i (fun h => absurd h (by omega)) (fun _ => dl_yval ha hi6 ⟨hv, ?_⟩)
    by_cases h : o (dl_ol a i) = 99
    · rw [dl_co_t h] at hp
      exact br_t (hr.trans h) hp
    · rw [dl_co_f h] at hp
      refine br_f (fun z => h (hr.symm.trans z)) ⟨hv, nm_r (congrArg (fun z => s + z) hr) (nm_r (nI_1 i) ⟨7, dl_yi post _ o p a i ha hi6 d (i + 1) 7 _ (by omega) (by omega) (fun e => ?_) (fun s' e => ih (i + 1) m s' (by omega) (by omega) ?_)⟩)⟩
      · rw [e] at hp; exact hp
      · rw [e] at hp; exact hp
theorem dl_xcost {post : Int32 → Prop} {o p : Nat → Int32} {f a : Nat} (ha : a < 729) (hf : f < 6) (h : post (dl_cost o p f a)) : wpX_costFrom post (o, p) (nI f) (nI a) := ⟨7, dl_xo post o p a ha (6 - f) f 7 0 (by omega) (by omega) h⟩
theorem dl_ycost {post : Int32 → Prop} {o p : Nat → Int32} {f a : Nat} (ha : a < 729) (hf : f < 6) (h : post (dl_cost o p f a)) : wpY_cost post (o, p) (nI a) (nI f) := ⟨7, dl_yo post o p a ha (6 - f) f 7 0 (by omega) (by omega) h⟩
