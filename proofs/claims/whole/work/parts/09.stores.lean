theorem dl_rel (o : Nat → Int32) (q : Nat) (sm c w : Int32) (hq : q < 36) (hw : (sm = 0 ∧ w = 0) ∨ (¬ sm = 0 ∧ w = 1)) : ∀ (d j : Nat) (p : Nat → Int32), j + d = 9 → ∃ p' : Nat → Int32, (∀ (post : Int32 → SX → Prop) (n : Nat), d < n → post 0 (o, p') → wX_relate_30 post (nI q) c w n (nI j) o p) ∧ (∀ (post : Int32 → SY → Prop) (n : Nat), d < n → post 0 (o, p') → wY_relate_21 post (nI q) sm c n (nI j) o p) := by
  intro d
  induction d with
  | zero =>
    intro j p hj
    refine ⟨p, fun post n hn h => ?_, fun post n hn h => ?_⟩
    · obtain ⟨k, rfl⟩ : ∃ k, n = k + 1 := ⟨n - 1, by omega⟩
      exact pk_le 9 j (fun _ => h) (fun h => absurd h (by omega))
    · obtain ⟨k, rfl⟩ : ∃ k, n = k + 1 := ⟨n - 1, by omega⟩
      exact pk_le 9 j (fun _ => h) (fun h => absurd h (by omega))
  | succ d ih =>
    intro j p hj
    have hin : vp_in (9 * nI q + nI j) 324 := pk_in (9 * q + j) 324 (by omega) (by rw [show (9 : Int32) = nI 9 from rfl, pk_mul, nI_add])
    obtain ⟨pk, kX, kY⟩ := ih (j + 1) p (by omega)
    obtain ⟨pu, uX, uY⟩ := ih (j + 1) (upd p (9 * nI q + nI j).toNatClampNeg c) (by omega)
    by_cases t : nI j / 3 = nI j - nI j / 3 * 3
    · rcases hw with ⟨e, rfl⟩ | ⟨e, rfl⟩
      · refine ⟨pk, fun post n hn h => ?_, fun post n hn h => ?_⟩
        · obtain ⟨k, rfl⟩ : ∃ k, n = k + 1 := ⟨n - 1, by omega⟩
          exact pk_le 9 j (fun h => absurd h (by omega)) (fun _ => ⟨by decide, by decide, br_t t (br_f (by decide) (nm_r (nI_1 j) (kX post k (by omega) h)))⟩)
        · obtain ⟨k, rfl⟩ : ∃ k, n = k + 1 := ⟨n - 1, by omega⟩
          exact pk_le 9 j (fun h => absurd h (by omega)) (fun _ => ⟨by decide, by decide, br_t t (br_t e (br_f (by decide) (nm_r (nI_1 j) (kY post k (by omega) h))))⟩)
      · refine ⟨pu, fun post n hn h => ?_, fun post n hn h => ?_⟩
        · obtain ⟨k, rfl⟩ : ∃ k, n = k + 1 := ⟨n - 1, by omega⟩
          exact pk_le 9 j (fun h => absurd h (by omega)) (fun _ => ⟨by decide, by decide, br_t t (br_t rfl ⟨hin, nm_e (nm_r (nI_1 j) (uX post k (by omega) h))⟩)⟩)
        · obtain ⟨k, rfl⟩ : ∃ k, n = k + 1 := ⟨n - 1, by omega⟩
          exact pk_le 9 j (fun h => absurd h (by omega)) (fun _ => ⟨by decide, by decide, br_t t (br_f e (br_t rfl ⟨hin, nm_e (nm_r (nI_1 j) (uY post k (by omega) h))⟩))⟩)
    · rcases hw with ⟨e, rfl⟩ | ⟨e, rfl⟩
      · refine ⟨pu, fun post n hn h => ?_, fun post n hn h => ?_⟩
        · obtain ⟨k, rfl⟩ : ∃ k, n = k + 1 := ⟨n - 1, by omega⟩
          exact pk_le 9 j (fun h => absurd h (by omega)) (fun _ => ⟨by decide, by decide, br_f t (br_t rfl ⟨hin, nm_e (nm_r (nI_1 j) (uX post k (by omega) h))⟩)⟩)
        · obtain ⟨k, rfl⟩ : ∃ k, n = k + 1 := ⟨n - 1, by omega⟩
          exact pk_le 9 j (fun h => absurd h (by omega)) (fun _ => ⟨by decide, by decide, br_f t (br_t e (br_t rfl ⟨hin, nm_e (nm_r (nI_1 j) (uY post k (by omega) h))⟩))⟩)
      · refine ⟨pk, fun post n hn h => ?_, fun post n hn h => ?_⟩
        · obtain ⟨k, rfl⟩ : ∃ k, n = k + 1 := ⟨n - 1, by omega⟩
          exact pk_le 9 j (fun h => absurd h (by omega)) (fun _ => ⟨by decide, by decide, br_f t (br_f (by decide) (nm_r (nI_1 j) (kX post k (by omega) h)))⟩)
        · obtain ⟨k, rfl⟩ : ∃ k, n = k + 1 := ⟨n - 1, by omega⟩
          exact pk_le 9 j (fun h => absurd h (by omega)) (fun _ => ⟨by decide, by decide, br_f t (br_f e (br_f (by decide) (nm_r (nI_1 j) (kY post k (by omega) h))))⟩)
theorem dl_clp (o : Nat → Int32) : ∀ (d j : Nat) (p : Nat → Int32), j + d = 324 → ∃ p' : Nat → Int32, (∀ (post : SX → Prop) (n : Nat), d < n → post (o, p') → wX_clear_23 post n (nI j) o p) ∧ (∀ (post : SY → Prop) (n : Nat), d < n → post (o, p') → wY_clear_23 post n (nI j) o p) := by
  intro d
  induction d with
  | zero =>
    intro j p hj
    refine ⟨p, fun post n hn h => ?_, fun post n hn h => ?_⟩
    · obtain ⟨k, rfl⟩ : ∃ k, n = k + 1 := ⟨n - 1, by omega⟩
      exact pk_le 324 j (fun _ => h) (fun h => absurd h (by omega))
    · obtain ⟨k, rfl⟩ : ∃ k, n = k + 1 := ⟨n - 1, by omega⟩
      exact pk_le 324 j (fun _ => h) (fun h => absurd h (by omega))
  | succ d ih =>
    intro j p hj
    have hin : vp_in (nI j) 324 := vp_in_nI (by omega) (by decide)
    obtain ⟨pu, uX, uY⟩ := ih (j + 1) (upd p (nI j).toNatClampNeg 0) (by omega)
    refine ⟨pu, fun post n hn h => ?_, fun post n hn h => ?_⟩
    · obtain ⟨k, rfl⟩ : ∃ k, n = k + 1 := ⟨n - 1, by omega⟩
      exact pk_le 324 j (fun h => absurd h (by omega)) (fun _ => ⟨hin, nm_e (nm_r (nI_1 j) (uX post k (by omega) h))⟩)
    · obtain ⟨k, rfl⟩ : ∃ k, n = k + 1 := ⟨n - 1, by omega⟩
      exact pk_le 324 j (fun h => absurd h (by omega)) (fun _ => ⟨hin, nm_e (nm_r (nI_1 j) (uY post k (by omega) h))⟩)
theorem dl_clo (p : Nat → Int32) : ∀ (d j : Nat) (o : Nat → Int32), j + d = 18 → ∃ o' : Nat → Int32, (∀ (post : SX → Prop) (n : Nat), d < n → (∃ n23 : Nat, wX_clear_23 post n23 0 o' p) → wX_clear_2 post n (nI j) o p) ∧ (∀ (post : SY → Prop) (n : Nat), d < n → (∃ n23 : Nat, wY_clear_23 post n23 0 o' p) → wY_clear_2 post n (nI j) o p) := by
  intro d
  induction d with
  | zero =>
    intro j o hj
    refine ⟨o, fun post n hn h => ?_, fun post n hn h => ?_⟩
    · obtain ⟨k, rfl⟩ : ∃ k, n = k + 1 := ⟨n - 1, by omega⟩
      exact pk_le 18 j (fun _ => h) (fun h => absurd h (by omega))
    · obtain ⟨k, rfl⟩ : ∃ k, n = k + 1 := ⟨n - 1, by omega⟩
      exact pk_le 18 j (fun _ => h) (fun h => absurd h (by omega))
  | succ d ih =>
    intro j o hj
    have hin : vp_in (nI j) 18 := vp_in_nI (by omega) (by decide)
    obtain ⟨ou, uX, uY⟩ := ih (j + 1) (upd o (nI j).toNatClampNeg 0) (by omega)
    refine ⟨ou, fun post n hn h => ?_, fun post n hn h => ?_⟩
    · obtain ⟨k, rfl⟩ : ∃ k, n = k + 1 := ⟨n - 1, by omega⟩
      exact pk_le 18 j (fun h => absurd h (by omega)) (fun _ => ⟨hin, nm_e (nm_r (nI_1 j) (uX post k (by omega) h))⟩)
    · obtain ⟨k, rfl⟩ : ∃ k, n = k + 1 := ⟨n - 1, by omega⟩
      exact pk_le 18 j (fun h => absurd h (by omega)) (fun _ => ⟨hin, nm_e (nm_r (nI_1 j) (uY post k (by omega) h))⟩)
