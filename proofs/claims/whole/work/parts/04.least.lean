def dl_mn (b c : Int32) : Int32 := if b = -4 then c else if c = -4 then b else if c ≤ b then c else b
def dl_bt (c b : Int32) : Prop := ¬ c = -4 ∧ (b = -4 ∨ ¬ b ≤ c)
theorem dl_les {post : Int32 → Prop} {b c : Int32} (h : post (dl_mn b c)) : wpX_lesser post b c := by
  unfold dl_mn at h
  by_cases h1 : b = -4
  · rw [if_pos h1] at h; exact br_t h1 h
  · rw [if_neg h1] at h
    by_cases h2 : c = -4
    · rw [if_pos h2] at h; exact br_f h1 (br_t h2 h)
    · rw [if_neg h2] at h
      by_cases h3 : c ≤ b
      · rw [if_pos h3] at h; exact br_f h1 (br_f h2 (br_t h3 h))
      · rw [if_neg h3] at h; exact br_f h1 (br_f h2 (br_f h3 h))
theorem dl_isb {post : Int32 → Prop} {o p : Nat → Int32} {c b : Int32} (h0 : ¬ dl_bt c b → post 0) (h1 : dl_bt c b → post 1) : wpY_isBetter post (o, p) c b := by
  by_cases e1 : c = -4
  · exact br_t e1 (h0 (fun z => z.1 e1))
  · by_cases e2 : b = -4
    · exact br_f e1 (br_t e2 (h1 ⟨e1, Or.inl e2⟩))
    · by_cases e3 : b ≤ c
      · exact br_f e1 (br_f e2 (br_t e3 (h0 (fun z => z.2.elim e2 (fun w => w e3)))))
      · exact br_f e1 (br_f e2 (br_f e3 (h1 ⟨e1, Or.inr e3⟩)))
/-- b is the least cost other than -4 among the a < m with S a; -4 if there is none -/
def dl_L (S : Nat → Prop) (c : Nat → Int32) (m : Nat) (b : Int32) : Prop := (∀ a, a < m → S a → c a ≠ -4 → b ≠ -4 ∧ b ≤ c a) ∧ (b ≠ -4 → ∃ a, a < m ∧ S a ∧ c a = b)
theorem dl_L0 {S : Nat → Prop} {c : Nat → Int32} : dl_L S c 0 (-4) := ⟨fun a h => absurd h (Nat.not_lt_zero a), fun h => absurd rfl h⟩
theorem dl_Ln {S : Nat → Prop} {c : Nat → Int32} {m : Nat} {b : Int32} (h : dl_L S c m b) (hS : ¬ S m) : dl_L S c (m + 1) b := by
  refine ⟨fun a ha hs hc => ?_, fun hb => ?_⟩
  · by_cases e : a = m
    · subst e; exact absurd hs hS
    · exact h.1 a (by omega) hs hc
  · obtain ⟨a, ha, hs, hc⟩ := h.2 hb
    exact ⟨a, by omega, hs, hc⟩
theorem dl_Lb {S : Nat → Prop} {c : Nat → Int32} {m : Nat} {b : Int32} (h : dl_L S c m b) (hS : S m) (t : dl_bt (c m) b) : dl_L S c (m + 1) (c m) := by
  refine ⟨fun a ha hs hc => ⟨t.1, ?_⟩, fun _ => ⟨m, by omega, hS, rfl⟩⟩
  by_cases e : a = m
  · subst e; exact Int32.le_refl _
  · obtain ⟨h1, h2⟩ := h.1 a (by omega) hs hc
    rcases t.2 with t2 | t2
    · exact absurd t2 h1
    · exact Int32.le_trans (Int32.le_of_lt (Int32.not_le.mp t2)) h2
theorem dl_Lk {S : Nat → Prop} {c : Nat → Int32} {m : Nat} {b : Int32} (h : dl_L S c m b) (t : ¬ dl_bt (c m) b) : dl_L S c (m + 1) b := by
  refine ⟨fun a ha hs hc => ?_, fun hb => ?_⟩
  · by_cases e : a = m
    · subst e
      by_cases hb : b = -4
      · exact absurd ⟨hc, Or.inl hb⟩ t
      · by_cases hl : b ≤ c a
        · exact ⟨hb, hl⟩
        · exact absurd ⟨hc, Or.inr hl⟩ t
    · exact h.1 a (by omega) hs hc
  · obtain ⟨a, ha, hs, hc⟩ := h.2 hb
    exact ⟨a, by omega, hs, hc⟩
theorem dl_mnE (b c : Int32) : (dl_bt c b ∧ dl_mn b c = c) ∨ (¬ dl_bt c b ∧ dl_mn b c = b) := by
  unfold dl_mn
  by_cases h2 : c = -4
  · refine Or.inr ⟨fun z => z.1 h2, ?_⟩
    by_cases h1 : b = -4
    · rw [if_pos h1, h1, h2]
    · rw [if_neg h1, if_pos h2]
  · by_cases h1 : b = -4
    · exact Or.inl ⟨⟨h2, Or.inl h1⟩, if_pos h1⟩
    · rw [if_neg h1, if_neg h2]
      by_cases h3 : b ≤ c
      · refine Or.inr ⟨fun z => z.2.elim h1 (fun w => w h3), ?_⟩
        by_cases h4 : c ≤ b
        · rw [if_pos h4]; exact Int32.le_antisymm h4 h3
        · rw [if_neg h4]
      · exact Or.inl ⟨⟨h2, Or.inr h3⟩, if_pos (Int32.le_of_lt (Int32.not_le.mp h3))⟩
theorem dl_Ls {S : Nat → Prop} {c : Nat → Int32} {m : Nat} {b : Int32} (h : dl_L S c m b) (hS : S m) : dl_L S c (m + 1) (dl_mn b (c m)) := by
  rcases dl_mnE b (c m) with ⟨t, e⟩ | ⟨t, e⟩
  · rw [e]; exact dl_Lb h hS t
  · rw [e]; exact dl_Lk h t
theorem dl_Lu {S : Nat → Prop} {c : Nat → Int32} {m : Nat} {b b' : Int32} (h : dl_L S c m b) (h' : dl_L S c m b') : b' = b := by
  by_cases e : b = -4
  · by_cases e' : b' = -4
    · rw [e, e']
    · obtain ⟨a, ha, hs, hc⟩ := h'.2 e'
      exact absurd e (h.1 a ha hs (by rw [hc]; exact e')).1
  · obtain ⟨a, ha, hs, hc⟩ := h.2 e
    obtain ⟨q1, q2⟩ := h'.1 a ha hs (by rw [hc]; exact e)
    obtain ⟨a', ha', hs', hc'⟩ := h'.2 q1
    obtain ⟨_, q4⟩ := h.1 a' ha' hs' (by rw [hc']; exact q1)
    rw [hc] at q2
    rw [hc'] at q4
    exact Int32.le_antisymm q2 q4
theorem dl_xl (post : Int32 → Prop) (o p : Nat → Int32) (f : Nat) (hf : f < 6) (h : ∀ b, dl_L (fun _ => True) (dl_cost o p f) 729 b → post b) : ∀ (d m n : Nat) (b : Int32), m + d = 729 → d < n → dl_L (fun _ => True) (dl_cost o p f) m b → wX_leastFrom_5 post (nI f) o p n b (nI m) := by
  intro d
  induction d with
  | zero =>
    intro m n b hm hn hL
    obtain ⟨k, rfl⟩ : ∃ k, n = k + 1 := ⟨n - 1, by omega⟩
    obtain rfl : m = 729 := by omega
    exact pk_le 729 729 (fun _ => h b hL) (fun h => absurd h (by omega))
  | succ d ih =>
    intro m n b hm hn hL
    obtain ⟨k, rfl⟩ : ∃ k, n = k + 1 := ⟨n - 1, by omega⟩
    exact pk_le 729 m (fun h => absurd h (by omega)) (fun _ => dl_xcost (by omega) hf (dl_les (nm_r (nI_1 m) (ih (m + 1) k _ (by omega) (by omega) (dl_Ls hL trivial)))))
theorem dl_xleast {post : Int32 → Prop} {o p : Nat → Int32} {f : Nat} (hf : f < 6) (h : ∀ b, dl_L (fun _ => True) (dl_cost o p f) 729 b → post b) : wpX_leastFrom post (o, p) (nI f) := ⟨730, dl_xl post o p f hf h 729 0 730 (-4) (by omega) (by omega) dl_L0⟩
theorem dl_yl (post : Int32 → Prop) (o p : Nat → Int32) (f M : Nat) (hf : f < 6) (hM : M ≤ 729) (h : ∀ b, dl_L (fun _ => True) (dl_cost o p f) M b → post b) : ∀ (d m n : Nat) (b : Int32), m + d = M → d < n → dl_L (fun _ => True) (dl_cost o p f) m b → wY_doll_36 post (nI f) (nI M) o p n b (nI m) := by
  intro d
  induction d with
  | zero =>
    intro m n b hm hn hL
    obtain ⟨k, rfl⟩ : ∃ k, n = k + 1 := ⟨n - 1, by omega⟩
    obtain rfl : m = M := by omega
    exact pk_le m m (fun _ => h b hL) (fun h => absurd h (by omega))
  | succ d ih =>
    intro m n b hm hn hL
    obtain ⟨k, rfl⟩ : ∃ k, n = k + 1 := ⟨n - 1, by omega⟩
    exact pk_le M m (fun h => absurd h (by omega)) (fun _ => dl_ycost (by omega) hf (dl_isb (fun t => br_t rfl (nm_r (nI_1 m) (ih (m + 1) k _ (by omega) (by omega) (dl_Lk hL t)))) (fun t => br_f (by decide) (nm_r (nI_1 m) (ih (m + 1) k _ (by omega) (by omega) (dl_Lb hL trivial t))))))
theorem dl_yp (post : Int32 → Prop) (o p : Nat → Int32) (f : Nat) (hf : f < 6) : ∀ (d j w n : Nat), j + d = 6 → d < n → w * 3 ^ d ≤ 729 → (∃ n36 : Nat, wY_doll_36 post (nI f) (nI (w * 3 ^ d)) o p n36 (-4) 0) → wY_doll_14 post (nI f) o p n (nI w) (nI j) := by
  intro d
  induction d with
  | zero =>
    intro j w n hj hn hw h
    obtain ⟨k, rfl⟩ : ∃ k, n = k + 1 := ⟨n - 1, by omega⟩
    rw [Nat.pow_zero, Nat.mul_one] at h
    exact pk_le 6 j (fun _ => h) (fun h => absurd h (by omega))
  | succ d ih =>
    intro j w n hj hn hw h
    obtain ⟨k, rfl⟩ : ∃ k, n = k + 1 := ⟨n - 1, by omega⟩
    have e : 3 * w * 3 ^ d = w * 3 ^ (d + 1) := by
      rw [Nat.pow_succ', Nat.mul_comm 3 w, Nat.mul_assoc]
    have e3 : 3 * nI w = nI (3 * w) := by rw [show (3 : Int32) = nI 3 from rfl, pk_mul]
    exact pk_le 6 j (fun h => absurd h (by omega)) (fun _ => nm_r e3 (nm_r (nI_1 j) (ih (j + 1) (3 * w) k (by omega) (by omega) (by rw [e]; exact hw) (by rw [e]; exact h))))
theorem dl_dgm {a f i : Nat} (h : f ≤ i) (hi : i < 6) : dl_dg (a % 3 ^ (6 - f)) i = dl_dg a i := by
  have e : 3 ^ (6 - f) = 3 ^ (5 - i) * (3 * 3 ^ (i - f)) := by
    rw [← Nat.pow_succ', ← Nat.pow_add]
    exact congrArg (fun z => 3 ^ z) (by omega)
  unfold dl_dg
  rw [e, Nat.mod_mul_right_div_self, Nat.mod_mul_right_mod]
theorem dl_cic (p : Nat → Int32) (a a' i : Nat) (hd : ∀ j, i ≤ j → j < 6 → dl_dg a' j = dl_dg a j) (hi : i < 6) : ∀ (d j : Nat) (s : Int32), i ≤ j → j + d = 6 → dl_ci p a' i d j s = dl_ci p a i d j s := by
  intro d
  induction d with
  | zero => intro j s _ _; rfl
  | succ d ih =>
    intro j s h1 h2
    have e : dl_pl a' i j = dl_pl a i j := by unfold dl_pl; rw [hd i (Nat.le_refl i) hi, hd j h1 (by omega)]
    by_cases h : p (dl_pl a i j) = 99
    · rw [dl_ci_t h, dl_ci_t (by rw [e]; exact h)]
    · rw [dl_ci_f h, dl_ci_f (by rw [e]; exact h), e]
      exact ih (j + 1) _ (by omega) (by omega)
theorem dl_coc (o p : Nat → Int32) (a a' f : Nat) (hd : ∀ j, f ≤ j → j < 6 → dl_dg a' j = dl_dg a j) : ∀ (d i : Nat) (s : Int32), f ≤ i → i + d = 6 → dl_co o p a' d i s = dl_co o p a d i s := by
  intro d
  induction d with
  | zero => intro i s _ _; rfl
  | succ d ih =>
    intro i s h1 h2
    have e : dl_ol a' i = dl_ol a i := by unfold dl_ol; rw [hd i h1 (by omega)]
    by_cases h : o (dl_ol a i) = 99
    · rw [dl_co_t h, dl_co_t (by rw [e]; exact h)]
    · rw [dl_co_f h, dl_co_f (by rw [e]; exact h), e, dl_cic p a a' i (fun j g1 g2 => hd j (by omega) g2) (by omega) d (i + 1) _ (by omega) (by omega)]
      exact congrArg (fun g => Option.elim _ (-4) g) (funext (fun s' => ih (i + 1) s' (by omega) (by omega)))
theorem dl_costm (o p : Nat → Int32) {f : Nat} (hf : f < 6) (a : Nat) : dl_cost o p f (a % 3 ^ (6 - f)) = dl_cost o p f a := dl_coc o p a _ f (fun _ g1 g2 => dl_dgm g1 g2) (6 - f) f 0 (Nat.le_refl f) (by omega)
theorem dl_Lp {c : Nat → Int32} {M N : Nat} {b : Int32} (hM : 0 < M) (hMN : M ≤ N) (hc : ∀ a, c (a % M) = c a) (h : dl_L (fun _ => True) c M b) : dl_L (fun _ => True) c N b := by
  refine ⟨fun a _ _ ha => ?_, fun hb => ?_⟩
  · have q := h.1 (a % M) (Nat.mod_lt _ hM) trivial (by rw [hc]; exact ha)
    rw [hc] at q
    exact q
  · obtain ⟨a, ha, hs, e⟩ := h.2 hb
    exact ⟨a, by omega, hs, e⟩
theorem dl_p6 : ∀ f, f < 6 → 0 < 3 ^ (6 - f) ∧ 3 ^ (6 - f) ≤ 729 := by decide
theorem dl_yleast {post : Int32 → Prop} {o p : Nat → Int32} {f : Nat} (hf : f < 6) (h : ∀ b, dl_L (fun _ => True) (dl_cost o p f) 729 b → post b) : ∃ n14 : Nat, wY_doll_14 post (nI f) o p n14 1 (nI f) := by
  obtain ⟨h0, h1⟩ := dl_p6 f hf
  have q := dl_yp post o p f hf (6 - f) f 1 7 (by omega) (by omega) (by omega) ⟨730, by
    rw [Nat.one_mul]
    exact dl_yl post o p f (3 ^ (6 - f)) hf h1 (fun b hb => h b (dl_Lp h0 h1 (dl_costm o p hf) hb)) (3 ^ (6 - f)) 0 730 (-4) (by omega) (by omega) dl_L0⟩
  exact ⟨7, q⟩
