theorem dl_var (v : Int32) : ((∃ i : Nat, i < 6 ∧ v = nI i) ∧ (∀ post : Int32 → Prop, post 1 → wpX_isVariable post v) ∧ (∀ (post : Int32 → Prop) (o p : Nat → Int32), post 1 → wpY_isVariable post (o, p) v)) ∨ ((∀ post : Int32 → Prop, post 0 → wpX_isVariable post v) ∧ (∀ (post : Int32 → Prop) (o p : Nat → Int32), post 0 → wpY_isVariable post (o, p) v)) := by
  by_cases h0 : v < 0
  · exact Or.inr ⟨fun _ h => br_t h0 h, fun _ _ _ h => br_t h0 h⟩
  · obtain ⟨j, hj, rfl⟩ := nI_of h0
    by_cases hl : j < 6
    · exact Or.inl ⟨⟨j, hl, rfl⟩, fun _ h => br_f h0 (pk_le 6 j (fun z => absurd z (by omega)) (fun _ => h)), fun _ _ _ h => br_f h0 (pk_lt 5 j (fun z => absurd z (by omega)) (fun _ => h))⟩
    · exact Or.inr ⟨fun _ h => br_f h0 (pk_le 6 j (fun _ => h) (fun z => absurd z (by omega))), fun _ _ _ h => br_f h0 (pk_lt 5 j (fun _ => h) (fun z => absurd z (by omega)))⟩
theorem dl_vlu (v : Int32) : ((∃ i : Nat, i < 3 ∧ v = nI i) ∧ (∀ post : Int32 → Prop, post 1 → wpX_isValue post v) ∧ (∀ (post : Int32 → Prop) (o p : Nat → Int32), post 1 → wpY_isValue post (o, p) v)) ∨ ((∀ post : Int32 → Prop, post 0 → wpX_isValue post v) ∧ (∀ (post : Int32 → Prop) (o p : Nat → Int32), post 0 → wpY_isValue post (o, p) v)) := by
  by_cases h0 : v < 0
  · exact Or.inr ⟨fun _ h => br_t h0 h, fun _ _ _ h => br_t h0 h⟩
  · obtain ⟨j, hj, rfl⟩ := nI_of h0
    by_cases hl : j < 3
    · exact Or.inl ⟨⟨j, hl, rfl⟩, fun _ h => br_f h0 (pk_le 3 j (fun z => absurd z (by omega)) (fun _ => h)), fun _ _ _ h => br_f h0 (pk_lt 2 j (fun z => absurd z (by omega)) (fun _ => h))⟩
    · exact Or.inr ⟨fun _ h => br_f h0 (pk_le 3 j (fun _ => h) (fun z => absurd z (by omega))), fun _ _ _ h => br_f h0 (pk_lt 2 j (fun _ => h) (fun z => absurd z (by omega)))⟩
theorem dl_pr (v : Int32) : ((∃ i : Nat, i < 36 ∧ v = nI i) ∧ (∀ post : Int32 → Prop, post 1 → wpX_isPair post v) ∧ (∀ (post : Int32 → Prop) (o p : Nat → Int32), post 1 → wpY_isPair post (o, p) v)) ∨ ((∀ post : Int32 → Prop, post 0 → wpX_isPair post v) ∧ (∀ (post : Int32 → Prop) (o p : Nat → Int32), post 0 → wpY_isPair post (o, p) v)) := by
  by_cases h0 : v < 0
  · exact Or.inr ⟨fun _ h => br_t h0 h, fun _ _ _ h => br_t h0 h⟩
  · obtain ⟨j, hj, rfl⟩ := nI_of h0
    by_cases hl : j < 36
    · by_cases hc : nI j - nI j / 6 * 6 ≤ nI j / 6
      · exact Or.inr ⟨fun _ h => br_f h0 (pk_le 36 j (fun z => absurd z (by omega)) (fun _ => ⟨by decide, by decide, br_t hc h⟩)), fun _ _ _ h => br_f h0 (pk_lt 35 j (fun z => absurd z (by omega)) (fun _ => ⟨by decide, by decide, br_t hc h⟩))⟩
      · exact Or.inl ⟨⟨j, hl, rfl⟩, fun _ h => br_f h0 (pk_le 36 j (fun z => absurd z (by omega)) (fun _ => ⟨by decide, by decide, br_f hc h⟩)), fun _ _ _ h => br_f h0 (pk_lt 35 j (fun z => absurd z (by omega)) (fun _ => ⟨by decide, by decide, br_f hc h⟩))⟩
    · exact Or.inr ⟨fun _ h => br_f h0 (pk_le 36 j (fun _ => h) (fun z => absurd z (by omega))), fun _ _ _ h => br_f h0 (pk_lt 35 j (fun _ => h) (fun z => absurd z (by omega)))⟩
theorem dl_ct (v : Int32) : ((∀ post : Int32 → Prop, post 1 → wpX_isCost post v) ∧ (∀ (post : Int32 → Prop) (o p : Nat → Int32), post 1 → wpY_isCost post (o, p) v)) ∨ ((∀ post : Int32 → Prop, post 0 → wpX_isCost post v) ∧ (∀ (post : Int32 → Prop) (o p : Nat → Int32), post 0 → wpY_isCost post (o, p) v)) := by
  by_cases h9 : v = 99
  · subst h9
    exact Or.inl ⟨fun _ h => br_t rfl h, fun _ _ _ h => br_f (by decide) (br_f (by decide) (br_t rfl h))⟩
  · by_cases h0 : v < 0
    · exact Or.inr ⟨fun _ h => br_f h9 (br_t h0 h), fun _ _ _ h => br_t h0 (br_f h9 h)⟩
    · by_cases h3 : v ≤ 30
      · exact Or.inl ⟨fun _ h => br_f h9 (br_f h0 (br_f (Int32.not_lt.mpr h3) h)), fun _ _ _ h => br_f h0 (br_t h3 h)⟩
      · exact Or.inr ⟨fun _ h => br_f h9 (br_f h0 (br_t (Int32.not_le.mp h3) h)), fun _ _ _ h => br_f h0 (br_f h3 (br_f h9 h))⟩
