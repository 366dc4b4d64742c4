/-- another value of variable i stands in an assignment from m on that costs L -/
def dl_D (c : Nat → Int32) (i x : Nat) (L : Int32) (m : Nat) : Prop := ∃ a, m ≤ a ∧ a < 729 ∧ dl_dg a i ≠ x ∧ c a = L
theorem dl_D1 {c : Nat → Int32} {i x : Nat} {L : Int32} {m : Nat} (h : ¬ (dl_dg m i ≠ x ∧ c m = L)) : dl_D c i x L m ↔ dl_D c i x L (m + 1) := by
  refine ⟨fun ⟨a, h1, h2, h3, h4⟩ => ⟨a, ?_, h2, h3, h4⟩, fun ⟨a, h1, h2, h3, h4⟩ => ⟨a, by omega, h2, h3, h4⟩⟩
  by_cases q : a = m
  · subst q; exact absurd ⟨h3, h4⟩ h
  · omega
theorem dl_xt (post : Int32 → Prop) (o p : Nat → Int32) (i x : Nat) (L : Int32) (hi : i < 6) (hx : x < 3) : ∀ (d m n : Nat), m + d = 729 → d < n → (dl_D (dl_cost o p 0) i x L m → post 0) → (¬ dl_D (dl_cost o p 0) i x L m → post 1) → wX_settled_41 post (nI i) L (nI x) o p n (nI m) := by
  intro d
  induction d with
  | zero =>
    intro m n hm hn h0 h1
    obtain ⟨k, rfl⟩ : ∃ k, n = k + 1 := ⟨n - 1, by omega⟩
    exact pk_le 729 m (fun _ => h1 (fun ⟨a, g1, g2, _, _⟩ => absurd g1 (by omega))) (fun h => absurd h (by omega))
  | succ d ih =>
    intro m n hm hn h0 h1
    obtain ⟨k, rfl⟩ : ∃ k, n = k + 1 := ⟨n - 1, by omega⟩
    have h3 := dl_dg3 m i
    have nx : ¬ (dl_dg m i ≠ x ∧ dl_cost o p 0 m = L) → wX_settled_41 post (nI i) L (nI x) o p k (nI (m + 1)) := fun g => ih (m + 1) k (by omega) (by omega) (fun z => h0 ((dl_D1 g).mpr z)) (fun z => h1 (fun w => z ((dl_D1 g).mp w)))
    exact pk_le 729 m (fun h => absurd h (by omega)) (fun _ => dl_xval (by omega) hi (pk_eq (dl_dg m i) x (fun e => nm_r (nI_1 m) (nx (fun z => z.1 e))) (fun e => dl_xcost (f := 0) (by omega) (by decide) (br_c (fun w => h0 ⟨m, Nat.le_refl m, by omega, e, w⟩) (fun w => nm_r (nI_1 m) (nx (fun z => w z.2)))))))
/-- value x of variable i stands in a cheapest assignment -/
def dl_H (c : Nat → Int32) (i : Nat) (L : Int32) (x : Nat) : Prop := ∃ a, a < 729 ∧ dl_dg a i = x ∧ c a = L
theorem dl_wH {c : Nat → Int32} {i x : Nat} {L w : Int32} (hL : dl_L (fun _ => True) c 729 L) (hne : L ≠ -4) (hw : dl_L (fun a => dl_dg a i = x) c 729 w) : w = L ↔ dl_H c i L x := by
  refine ⟨fun e => ?_, fun ⟨a, h1, h2, h3⟩ => ?_⟩
  · obtain ⟨a, h1, h2, h3⟩ := hw.2 (by rw [e]; exact hne)
    exact ⟨a, h1, h2, by rw [h3]; exact e⟩
  · obtain ⟨q1, q2⟩ := hw.1 a h1 h2 (by rw [h3]; exact hne)
    obtain ⟨b, k1, k2, k3⟩ := hw.2 q1
    have q3 := (hL.1 b k1 trivial (by rw [k3]; exact q1)).2
    rw [k3] at q3
    rw [h3] at q2
    exact Int32.le_antisymm q2 q3
theorem dl_ywith {post : Int32 → Prop} {o p : Nat → Int32} {i x : Nat} (hi : i < 6) (hx : x < 3) (h : ∀ b, dl_L (fun a => dl_dg a i = x) (dl_cost o p 0) 729 b → post b) : wpY_with post (o, p) (nI i) (nI x) := by
  rcases dl_var (nI i) with ⟨_, _, v⟩ | ⟨_, v⟩
  · rcases dl_vlu (nI x) with ⟨_, _, w⟩ | ⟨_, w⟩
    · unfold wpY_with
      refine v _ o p ?_
      refine br_f (by decide) ?_
      refine w _ o p ?_
      refine br_f (by decide) ?_
      exact ⟨730, dl_yw post o p i x hi hx h 729 0 730 (-4) (by omega) (by omega) dl_L0⟩
    · exact absurd (w (fun r => r = 0) o p rfl) (fun z => by
        have a := z.2 (nI_pos (by omega))
        exact absurd (a.2 (nI_nlt (b := x) (a := 2) (by omega) (by decide))) (by decide))
  · exact absurd (v (fun r => r = 0) o p rfl) (fun z => by
      have a := z.2 (nI_pos (by omega))
      exact absurd (a.2 (nI_nlt (b := i) (a := 5) (by omega) (by decide))) (by decide))
theorem dl_ytl (post : Int32 → Prop) (o p : Nat → Int32) (i : Nat) (L : Int32) (hi : i < 6) (hL : dl_L (fun _ => True) (dl_cost o p 0) 729 L) (hne : L ≠ -4) (x k : Nat) (s : Int32) (hx : x < 3) (h1 : dl_H (dl_cost o p 0) i L x → wY_settled_26 post (nI i) L o p k (s + 1) (nI (x + 1))) (h0 : ¬ dl_H (dl_cost o p 0) i L x → wY_settled_26 post (nI i) L o p k s (nI (x + 1))) : wY_settled_26 post (nI i) L o p (k + 1) s (nI x) :=
  pk_le 3 x (fun h => absurd h (by omega)) (fun _ => dl_ywith hi hx (fun w hw => br_c (fun e => nm_e (nm_r (nI_1 x) (h1 ((dl_wH hL hne hw).mp e)))) (fun e => nm_r (nI_1 x) (h0 (fun z => e ((dl_wH hL hne hw).mpr z))))))
theorem dl_yend1 {post : Int32 → Prop} {i : Int32} {o p : Nat → Int32} {L : Int32} {k : Nat} {s : Int32} (e : s = 1) (h : post 1) : wY_settled_26 post i L o p (k + 1) s (nI 3) := pk_le 3 3 (fun _ => br_t e h) (fun h => absurd h (by omega))
theorem dl_yend0 {post : Int32 → Prop} {i : Int32} {o p : Nat → Int32} {L : Int32} {k : Nat} {s : Int32} (e : ¬ s = 1) (h : post 0) : wY_settled_26 post i L o p (k + 1) s (nI 3) := pk_le 3 3 (fun _ => br_f e h) (fun h => absurd h (by omega))
/-- r says whether exactly one value of i stands in cheapest assignments -/
theorem dl_yt {post : Int32 → Prop} {o p : Nat → Int32} {i f : Nat} (hi : i < 6) (hf : f < 729) (hL : dl_L (fun _ => True) (dl_cost o p 0) 729 (dl_cost o p 0 f)) (hne : dl_cost o p 0 f ≠ -4) (h1 : (∀ a, a < 729 → dl_cost o p 0 a = dl_cost o p 0 f → dl_dg a i = dl_dg f i) → post 1) (h0 : ¬ (∀ a, a < 729 → dl_cost o p 0 a = dl_cost o p 0 f → dl_dg a i = dl_dg f i) → post 0) : wY_settled_26 post (nI i) (dl_cost o p 0 f) o p 4 0 0 := by
  have two : ∀ x y, x ≠ y → dl_H (dl_cost o p 0) i (dl_cost o p 0 f) x → dl_H (dl_cost o p 0) i (dl_cost o p 0 f) y → post 0 := by
    intro x y hxy ⟨a, a1, a2, a3⟩ ⟨b, b1, b2, b3⟩
    refine h0 (fun z => ?_)
    have q1 := z a a1 a3
    have q2 := z b b1 b3
    omega
  have one : ∀ x y z, (∀ w, w < 3 → w = x ∨ w = y ∨ w = z) → ¬ dl_H (dl_cost o p 0) i (dl_cost o p 0 f) y → ¬ dl_H (dl_cost o p 0) i (dl_cost o p 0 f) z → post 1 := by
    intro x y z hc ny nz
    have g : ∀ a, a < 729 → dl_cost o p 0 a = dl_cost o p 0 f → dl_dg a i = x := by
      intro a ha e
      rcases hc _ (dl_dg3 a i) with q | q | q
      · exact q
      · exact absurd ⟨a, ha, q, e⟩ ny
      · exact absurd ⟨a, ha, q, e⟩ nz
    exact h1 (fun a ha e => (g a ha e).trans (g f hf rfl).symm)
  have non : ¬ dl_H (dl_cost o p 0) i (dl_cost o p 0 f) 0 → ¬ dl_H (dl_cost o p 0) i (dl_cost o p 0 f) 1 → ¬ dl_H (dl_cost o p 0) i (dl_cost o p 0 f) 2 → False := by
    intro n0 n1 n2
    have q := dl_dg3 f i
    have w : dl_H (dl_cost o p 0) i (dl_cost o p 0 f) (dl_dg f i) := ⟨f, hf, rfl, rfl⟩
    have c : dl_dg f i = 0 ∨ dl_dg f i = 1 ∨ dl_dg f i = 2 := by omega
    rcases c with c | c | c <;> rw [c] at w
    · exact n0 w
    · exact n1 w
    · exact n2 w
  exact dl_ytl post o p i _ hi hL hne 0 3 0 (by decide)
    (fun a0 => dl_ytl post o p i _ hi hL hne 1 2 _ (by decide)
      (fun a1 => dl_ytl post o p i _ hi hL hne 2 1 _ (by decide)
        (fun _ => dl_yend0 (by decide) (two 0 1 (by decide) a0 a1))
        (fun _ => dl_yend0 (by decide) (two 0 1 (by decide) a0 a1)))
      (fun b1 => dl_ytl post o p i _ hi hL hne 2 1 _ (by decide)
        (fun a2 => dl_yend0 (by decide) (two 0 2 (by decide) a0 a2))
        (fun b2 => dl_yend1 (by decide) (one 0 1 2 (by omega) b1 b2))))
    (fun b0 => dl_ytl post o p i _ hi hL hne 1 2 _ (by decide)
      (fun a1 => dl_ytl post o p i _ hi hL hne 2 1 _ (by decide)
        (fun a2 => dl_yend0 (by decide) (two 1 2 (by decide) a1 a2))
        (fun b2 => dl_yend1 (by decide) (one 1 0 2 (by omega) b0 b2)))
      (fun b1 => dl_ytl post o p i _ hi hL hne 2 1 _ (by decide)
        (fun _ => dl_yend1 (by decide) (one 2 0 1 (by omega) b0 b1))
        (fun b2 => (non b0 b1 b2).elim)))
