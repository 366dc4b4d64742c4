/-- r is the number of the first of the cheapest assignments; -4 if all are barred -/
def dl_F (c : Nat → Int32) (m : Nat) (b r : Int32) : Prop := (b = -4 ∧ r = -4 ∧ ∀ a, a < m → c a = -4) ∨ (∃ f, f < m ∧ r = nI f ∧ b = c f ∧ c f ≠ -4 ∧ (∀ a, a < m → c a ≠ -4 → c f ≤ c a) ∧ ∀ a, a < f → c a ≠ c f)
theorem dl_F0 {c : Nat → Int32} : dl_F c 0 (-4) (-4) := Or.inl ⟨rfl, rfl, fun a h => absurd h (Nat.not_lt_zero a)⟩
theorem dl_n4 {f : Nat} (h : f < 729) : nI f ≠ -4 := fun e => by
  have q := nI_toInt (n := f) (by omega)
  rw [e] at q
  have z : (-4 : Int32).toInt = -4 := by decide
  rw [z] at q
  omega
theorem dl_Fb {c : Nat → Int32} {m : Nat} {b r : Int32} (h : dl_F c m b r) (t : dl_bt (c m) b) : dl_F c (m + 1) (c m) (nI m) := by
  refine Or.inr ⟨m, by omega, rfl, rfl, t.1, fun a ha hc => ?_, fun a ha e => ?_⟩
  · by_cases e : a = m
    · subst e; exact Int32.le_refl _
    · rcases h with ⟨_, _, h3⟩ | ⟨f, h1, h2, h3, h4, h5, h6⟩
      · exact absurd (h3 a (by omega)) hc
      · rcases t.2 with t2 | t2
        · exact absurd (h3.symm.trans t2) h4
        · rw [h3] at t2
          exact Int32.le_trans (Int32.le_of_lt (Int32.not_le.mp t2)) (h5 a (by omega) hc)
  · rcases h with ⟨_, _, h3⟩ | ⟨f, h1, h2, h3, h4, h5, h6⟩
    · exact t.1 (e.symm.trans (h3 a ha))
    · rcases t.2 with t2 | t2
      · exact absurd (h3.symm.trans t2) h4
      · rw [h3, ← e] at t2
        exact t2 (h5 a ha (by rw [e]; exact t.1))
theorem dl_Fk {c : Nat → Int32} {m : Nat} {b r : Int32} (h : dl_F c m b r) (t : ¬ dl_bt (c m) b) : dl_F c (m + 1) b r := by
  rcases h with ⟨h1, h2, h3⟩ | ⟨f, h1, h2, h3, h4, h5, h6⟩
  · refine Or.inl ⟨h1, h2, fun a ha => ?_⟩
    by_cases e : a = m
    · subst e
      by_cases q : c a = -4
      · exact q
      · exact absurd ⟨q, Or.inl h1⟩ t
    · exact h3 a (by omega)
  · refine Or.inr ⟨f, by omega, h2, h3, h4, fun a ha hc => ?_, h6⟩
    by_cases e : a = m
    · subst e
      by_cases q : c f ≤ c a
      · exact q
      · exact absurd ⟨hc, Or.inr (by rw [h3]; exact q)⟩ t
    · exact h5 a (by omega) hc
theorem dl_Fu {c : Nat → Int32} {m : Nat} {b b' r r' : Int32} (h : dl_F c m b r) (h' : dl_F c m b' r') : r' = r := by
  rcases h with ⟨_, h2, h3⟩ | ⟨f, h1, h2, h3, h4, h5, h6⟩
  · rcases h' with ⟨_, k2, _⟩ | ⟨g, k1, k2, k3, k4, k5, k6⟩
    · rw [h2, k2]
    · exact absurd (h3 g k1) k4
  · rcases h' with ⟨_, k2, k3⟩ | ⟨g, k1, k2, k3, k4, k5, k6⟩
    · exact absurd (k3 f h1) h4
    · have e : c f = c g := Int32.le_antisymm (h5 g k1 k4) (k5 f h1 h4)
      have q : f = g := by
        rcases Nat.lt_trichotomy f g with l | l | l
        · exact absurd e (k6 f l)
        · exact l
        · exact absurd e.symm (h6 g l)
      rw [h2, k2, q]
theorem dl_yf (post : Int32 → Prop) (o p : Nat → Int32) (h : ∀ b r, dl_F (dl_cost o p 0) 729 b r → post r) : ∀ (d m n : Nat) (b r : Int32), m + d = 729 → d < n → dl_F (dl_cost o p 0) m b r → wY_first_8 post o p n b r (nI m) := by
  intro d
  induction d with
  | zero =>
    intro m n b r hm hn hF
    obtain ⟨k, rfl⟩ : ∃ k, n = k + 1 := ⟨n - 1, by omega⟩
    obtain rfl : m = 729 := by omega
    exact pk_le 729 729 (fun _ => h b r hF) (fun h => absurd h (by omega))
  | succ d ih =>
    intro m n b r hm hn hF
    obtain ⟨k, rfl⟩ : ∃ k, n = k + 1 := ⟨n - 1, by omega⟩
    exact pk_le 729 m (fun h => absurd h (by omega)) (fun _ => dl_ycost (f := 0) (by omega) (by decide) (dl_isb (fun t => br_t rfl (nm_r (nI_1 m) (ih (m + 1) k _ _ (by omega) (by omega) (dl_Fk hF t)))) (fun t => br_f (by decide) (nm_r (nI_1 m) (ih (m + 1) k _ _ (by omega) (by omega) (dl_Fb hF t))))))
theorem dl_yfirst {post : Int32 → Prop} {o p : Nat → Int32} (h : ∀ b r, dl_F (dl_cost o p 0) 729 b r → post r) : wpY_first post (o, p) := ⟨730, dl_yf post o p h 729 0 730 (-4) (-4) (by omega) (by omega) dl_F0⟩
theorem dl_xf (post : Int32 → Prop) (o p : Nat → Int32) (b : Int32) (hb : b ≠ -4) (hL : dl_L (fun _ => True) (dl_cost o p 0) 729 b) (h : ∀ b r, dl_F (dl_cost o p 0) 729 b r → post r) : ∀ (d m n : Nat), m + d = 729 → d < n → (∀ a, a < m → dl_cost o p 0 a ≠ b) → wX_firstCheapest_17 post b o p n (nI m) := by
  intro d
  induction d with
  | zero =>
    intro m n hm hn hF
    obtain ⟨a, ha, _, e⟩ := hL.2 hb
    exact absurd e (hF a (by omega))
  | succ d ih =>
    intro m n hm hn hF
    obtain ⟨k, rfl⟩ : ∃ k, n = k + 1 := ⟨n - 1, by omega⟩
    refine pk_le 729 m (fun h => absurd h (by omega)) (fun _ => dl_xcost (f := 0) (by omega) (by decide) ?_)
    by_cases e : dl_cost o p 0 m = b
    · exact br_t e (h b (nI m) (Or.inr ⟨m, by omega, rfl, e.symm, by rw [e]; exact hb, fun a ha hc => by rw [e]; exact (hL.1 a ha trivial hc).2, fun a ha => by rw [e]; exact hF a ha⟩))
    · refine br_f e (nm_r (nI_1 m) (ih (m + 1) k (by omega) (by omega) (fun a ha => ?_)))
      by_cases q : a = m
      · rw [q]; exact e
      · exact hF a (by omega)
theorem dl_xfirst {post : Int32 → Prop} {o p : Nat → Int32} (h : ∀ b r, dl_F (dl_cost o p 0) 729 b r → post r) : wpX_firstCheapest post (o, p) := by
  refine dl_xleast (f := 0) (by decide) (fun b hL => ?_)
  by_cases e : b = -4
  · refine br_t e (h b (-4) (Or.inl ⟨e, rfl, fun a ha => ?_⟩))
    by_cases q : dl_cost o p 0 a = -4
    · exact q
    · exact absurd e (hL.1 a ha trivial q).1
  · exact br_f e ⟨730, dl_xf post o p b e hL h 729 0 730 (by omega) (by omega) (fun a ha => absurd ha (Nat.not_lt_zero a))⟩
