theorem dl_xw (post : Int32 → Prop) (o p : Nat → Int32) (i x : Nat) (hi : i < 6) (hx : x < 3) (h : ∀ b, dl_L (fun a => dl_dg a i = x) (dl_cost o p 0) 729 b → post b) : ∀ (d m n : Nat) (b : Int32), m + d = 729 → d < n → dl_L (fun a => dl_dg a i = x) (dl_cost o p 0) m b → wX_with_22 post (nI i) (nI x) o p n b (nI m) := by
  intro d
  induction d with
  | zero =>
    intro m n b hm hn hL
    obtain ⟨k, rfl⟩ : ∃ k, n = k + 1 := ⟨n - 1, by omega⟩
    obtain rfl : m = 729 := by omega
    exact pk_le 729 729 (fun _ => h b hL) (fun h => absurd h (by omega))
  | succ d ih =>
    intro m n b hm hn hL
    obtain ⟨k, rfl⟩ : ∃ k, n = k + 1 := ⟨n - 1, by omega⟩
    have h3 := dl_dg3 m i
    exact pk_le 729 m (fun h => absurd h (by omega)) (fun _ => dl_xval (by omega) hi (pk_eq (dl_dg m i) x (fun e => dl_xcost (f := 0) (by omega) (by decide) (dl_les (nm_r (nI_1 m) (ih (m + 1) k _ (by omega) (by omega) (dl_Ls hL e))))) (fun e => nm_r (nI_1 m) (ih (m + 1) k _ (by omega) (by omega) (dl_Ln hL e)))))
theorem dl_yw (post : Int32 → Prop) (o p : Nat → Int32) (i x : Nat) (hi : i < 6) (hx : x < 3) (h : ∀ b, dl_L (fun a => dl_dg a i = x) (dl_cost o p 0) 729 b → post b) : ∀ (d m n : Nat) (b : Int32), m + d = 729 → d < n → dl_L (fun a => dl_dg a i = x) (dl_cost o p 0) m b → wY_with_24 post (nI i) (nI x) o p n b (nI m) := by
  intro d
  induction d with
  | zero =>
    intro m n b hm hn hL
    obtain ⟨k, rfl⟩ : ∃ k, n = k + 1 := ⟨n - 1, by omega⟩
    obtain rfl : m = 729 := by omega
    exact pk_le 729 729 (fun _ => h b hL) (fun h => absurd h (by omega))
  | succ d ih =>
    intro m n b hm hn hL
    obtain ⟨k, rfl⟩ : ∃ k, n = k + 1 := ⟨n - 1, by omega⟩
    have h3 := dl_dg3 m i
    exact pk_le 729 m (fun h => absurd h (by omega)) (fun _ => dl_yval (by omega) hi (pk_eq (dl_dg m i) x (fun e => dl_ycost (f := 0) (by omega) (by decide) (dl_isb (fun t => br_t rfl (nm_r (nI_1 m) (ih (m + 1) k _ (by omega) (by omega) (dl_Lk hL t)))) (fun t => br_f (by decide) (nm_r (nI_1 m) (ih (m + 1) k _ (by omega) (by omega) (dl_Lb hL e t)))))) (fun e => nm_r (nI_1 m) (ih (m + 1) k _ (by omega) (by omega) (dl_Ln hL e)))))
/-- r is no number below 729, or the number of g -/
theorem dl_xs (post : Int32 → Prop) (o p : Nat → Int32) (r : Int32) (h : ∀ b, dl_L (fun a => ¬ nI a = r) (dl_cost o p 0) 729 b → post b) : ∀ (d m n : Nat) (b : Int32), m + d = 729 → d < n → dl_L (fun a => ¬ nI a = r) (dl_cost o p 0) m b → wX_second_10 post r o p n b (nI m) := by
  intro d
  induction d with
  | zero =>
    intro m n b hm hn hL
    obtain ⟨k, rfl⟩ : ∃ k, n = k + 1 := ⟨n - 1, by omega⟩
    obtain rfl : m = 729 := by omega
    exact pk_le 729 729 (fun _ => h b hL) (fun h => absurd h (by omega))
  | succ d ih =>
    intro m n b hm hn hL
    obtain ⟨k, rfl⟩ : ∃ k, n = k + 1 := ⟨n - 1, by omega⟩
    exact pk_le 729 m (fun h => absurd h (by omega)) (fun _ => br_c (fun e => nm_r (nI_1 m) (ih (m + 1) k _ (by omega) (by omega) (dl_Ln hL (fun z => z e)))) (fun e => dl_xcost (f := 0) (by omega) (by decide) (dl_les (nm_r (nI_1 m) (ih (m + 1) k _ (by omega) (by omega) (dl_Ls hL e))))))
theorem dl_ys (post : Int32 → Prop) (o p : Nat → Int32) (r : Int32) (h : ∀ b, dl_L (fun a => ¬ nI a = r) (dl_cost o p 0) 729 b → post b) : ∀ (d m n : Nat) (b : Int32), m + d = 729 → d < n → dl_L (fun a => ¬ nI a = r) (dl_cost o p 0) m b → wY_second_10 post r o p n b (nI m) := by
  intro d
  induction d with
  | zero =>
    intro m n b hm hn hL
    obtain ⟨k, rfl⟩ : ∃ k, n = k + 1 := ⟨n - 1, by omega⟩
    obtain rfl : m = 729 := by omega
    exact pk_le 729 729 (fun _ => h b hL) (fun h => absurd h (by omega))
  | succ d ih =>
    intro m n b hm hn hL
    obtain ⟨k, rfl⟩ : ∃ k, n = k + 1 := ⟨n - 1, by omega⟩
    exact pk_le 729 m (fun h => absurd h (by omega)) (fun _ => br_c (fun e => nm_r (nI_1 m) (ih (m + 1) k _ (by omega) (by omega) (dl_Ln hL (fun z => z e)))) (fun e => dl_ycost (f := 0) (by omega) (by decide) (dl_isb (fun t => br_t rfl (nm_r (nI_1 m) (ih (m + 1) k _ (by omega) (by omega) (dl_Lk hL t)))) (fun t => br_f (by decide) (nm_r (nI_1 m) (ih (m + 1) k _ (by omega) (by omega) (dl_Lb hL e t)))))))
/-- neighbours differ from variable j on -/
def dl_Z (a j : Nat) : Prop := ∀ i, j ≤ i → i < 5 → dl_dg a i ≠ dl_dg a (i + 1)
theorem dl_Z5 {a j : Nat} (h : 5 ≤ j) : dl_Z a j := fun i h1 h2 => absurd h1 (by omega)
theorem dl_Zt {a j : Nat} (h : j < 5) (e : dl_dg a j = dl_dg a (j + 1)) : ¬ dl_Z a j := fun z => z j (Nat.le_refl j) h e
theorem dl_Zf {a j : Nat} (e : dl_dg a j ≠ dl_dg a (j + 1)) : dl_Z a j ↔ dl_Z a (j + 1) := by
  refine ⟨fun z i h1 h2 => z i (by omega) h2, fun z i h1 h2 => ?_⟩
  by_cases q : i = j
  · rw [q]; exact e
  · exact z i (by omega) h2
theorem dl_xn (post : Int32 → Prop) (a : Nat) (ha : a < 729) : ∀ (d j n : Nat), j + d = 5 → d < n → (dl_Z a j → post 1) → (¬ dl_Z a j → post 0) → wX_neighboursDiffer_2 post (nI a) n (nI j) := by
  intro d
  induction d with
  | zero =>
    intro j n hj hn h1 h0
    obtain ⟨k, rfl⟩ : ∃ k, n = k + 1 := ⟨n - 1, by omega⟩
    exact pk_le 5 j (fun _ => h1 (dl_Z5 (by omega))) (fun h => absurd h (by omega))
  | succ d ih =>
    intro j n hj hn h1 h0
    obtain ⟨k, rfl⟩ : ∃ k, n = k + 1 := ⟨n - 1, by omega⟩
    have q1 := dl_dg3 a j
    have q2 := dl_dg3 a (j + 1)
    refine pk_le 5 j (fun h => absurd h (by omega)) (fun _ => dl_xval ha (by omega) ?_)
    rw [nI_1 j]
    exact dl_xval ha (by omega) (pk_eq (dl_dg a j) (dl_dg a (j + 1)) (fun e => h0 (dl_Zt (by omega) e)) (fun e => nm_e (ih (j + 1) k (by omega) (by omega) (fun z => h1 ((dl_Zf e).mpr z)) (fun z => h0 (fun w => z ((dl_Zf e).mp w))))))
theorem dl_yn (post : Int32 → Prop) (o p : Nat → Int32) (a : Nat) (ha : a < 729) : ∀ (d j n : Nat), j + d = 5 → d < n → (dl_Z a j → post 1) → (¬ dl_Z a j → post 0) → wY_isZigzag_2 post (nI a) o p n (nI j) := by
  intro d
  induction d with
  | zero =>
    intro j n hj hn h1 h0
    obtain ⟨k, rfl⟩ : ∃ k, n = k + 1 := ⟨n - 1, by omega⟩
    exact pk_le 5 j (fun _ => h1 (dl_Z5 (by omega))) (fun h => absurd h (by omega))
  | succ d ih =>
    intro j n hj hn h1 h0
    obtain ⟨k, rfl⟩ : ∃ k, n = k + 1 := ⟨n - 1, by omega⟩
    have q1 := dl_dg3 a j
    have q2 := dl_dg3 a (j + 1)
    refine pk_le 5 j (fun h => absurd h (by omega)) (fun _ => dl_yval ha (by omega) ?_)
    rw [nI_1 j]
    exact dl_yval ha (by omega) (pk_eq (dl_dg a j) (dl_dg a (j + 1)) (fun e => h0 (dl_Zt (by omega) e)) (fun e => nm_e (ih (j + 1) k (by omega) (by omega) (fun z => h1 ((dl_Zf e).mpr z)) (fun z => h0 (fun w => z ((dl_Zf e).mp w))))))
theorem dl_xnd {post : Int32 → Prop} {a : Nat} (ha : a < 729) (h1 : dl_Z a 0 → post 1) (h0 : ¬ dl_Z a 0 → post 0) : wpX_neighboursDiffer post (nI a) := ⟨6, dl_xn post a ha 5 0 6 (by omega) (by omega) h1 h0⟩
theorem dl_ynd {post : Int32 → Prop} {o p : Nat → Int32} {a : Nat} (ha : a < 729) (h1 : dl_Z a 0 → post 1) (h0 : ¬ dl_Z a 0 → post 0) : wpY_isZigzag post (o, p) (nI a) := ⟨6, dl_yn post o p a ha 5 0 6 (by omega) (by omega) h1 h0⟩
theorem dl_xz (post : Int32 → Prop) (o p : Nat → Int32) (h : ∀ b, dl_L (fun a => dl_Z a 0) (dl_cost o p 0) 729 b → post b) : ∀ (d m n : Nat) (b : Int32), m + d = 729 → d < n → dl_L (fun a => dl_Z a 0) (dl_cost o p 0) m b → wX_zigzag_5 post o p n b (nI m) := by
  intro d
  induction d with
  | zero =>
    intro m n b hm hn hL
    obtain ⟨k, rfl⟩ : ∃ k, n = k + 1 := ⟨n - 1, by omega⟩
    obtain rfl : m = 729 := by omega
    exact pk_le 729 729 (fun _ => h b hL) (fun h => absurd h (by omega))
  | succ d ih =>
    intro m n b hm hn hL
    obtain ⟨k, rfl⟩ : ∃ k, n = k + 1 := ⟨n - 1, by omega⟩
    exact pk_le 729 m (fun h => absurd h (by omega)) (fun _ => dl_xnd (by omega) (fun e => br_f (by decide) (dl_xcost (f := 0) (by omega) (by decide) (dl_les (nm_r (nI_1 m) (ih (m + 1) k _ (by omega) (by omega) (dl_Ls hL e)))))) (fun e => br_t rfl (nm_r (nI_1 m) (ih (m + 1) k _ (by omega) (by omega) (dl_Ln hL e)))))
theorem dl_yz (post : Int32 → Prop) (o p : Nat → Int32) (h : ∀ b, dl_L (fun a => dl_Z a 0) (dl_cost o p 0) 729 b → post b) : ∀ (d m n : Nat) (b : Int32), m + d = 729 → d < n → dl_L (fun a => dl_Z a 0) (dl_cost o p 0) m b → wY_zigzag_5 post o p n b (nI m) := by
  intro d
  induction d with
  | zero =>
    intro m n b hm hn hL
    obtain ⟨k, rfl⟩ : ∃ k, n = k + 1 := ⟨n - 1, by omega⟩
    obtain rfl : m = 729 := by omega
    exact pk_le 729 729 (fun _ => h b hL) (fun h => absurd h (by omega))
  | succ d ih =>
    intro m n b hm hn hL
    obtain ⟨k, rfl⟩ : ∃ k, n = k + 1 := ⟨n - 1, by omega⟩
    exact pk_le 729 m (fun h => absurd h (by omega)) (fun _ => dl_ynd (by omega) (fun e => br_f (by decide) (dl_ycost (f := 0) (by omega) (by decide) (dl_isb (fun t => br_t rfl (nm_r (nI_1 m) (ih (m + 1) k _ (by omega) (by omega) (dl_Lk hL t)))) (fun t => br_f (by decide) (nm_r (nI_1 m) (ih (m + 1) k _ (by omega) (by omega) (dl_Lb hL e t))))))) (fun e => br_t rfl (nm_r (nI_1 m) (ih (m + 1) k _ (by omega) (by omega) (dl_Ln hL e)))))
