/-- the two states hold the same two tables -/
def i_Rel (_ : Nat) (u : SX) (v : SY) : Prop := u = v
theorem i_up {k : Nat} {u : SX} {v : SY} (h : i_Rel k u v) : i_Rel (k + 4) u v := h
theorem i_vc0 : wpX_init (fun u => wpY_init (fun v => i_Rel 0 u v)) := rfl
theorem i_vc_own {k : Nat} {u : SX} {v : SY} (I : i_Rel k u v) (hk : k + 4 ≤ 2048) (v1 : Int32) (v2 : Int32) (v3 : Int32) : wpX_own (fun r u' => wpY_own (fun r' v' => r' = r ∧ i_Rel (k + 4) u' v') v v1 v2 v3) u v1 v2 v3 := by
  cases I
  obtain ⟨o, p⟩ := u
  unfold wpX_own wpY_own
  rcases dl_var v1 with ⟨⟨i, hi, rfl⟩, aX, aY⟩ | ⟨aX, aY⟩
  · refine aX _ ?_
    refine br_f (by decide) ?_
    rcases dl_vlu v2 with ⟨⟨x, hx, rfl⟩, bX, bY⟩ | ⟨bX, bY⟩
    · refine bX _ ?_
      refine br_f (by decide) ?_
      rcases dl_ct v3 with ⟨cX, cY⟩ | ⟨cX, cY⟩
      · have hin : vp_in (3 * nI i + nI x) 18 := pk_in (3 * i + x) 18 (by omega) (by rw [show (3 : Int32) = nI 3 from rfl, pk_mul, nI_add])
        refine cX _ ?_
        refine br_f (by decide) (nm_e ⟨hin, nm_e ⟨hin, nm_e ?_⟩⟩)
        refine aY _ o p ?_
        refine br_f (by decide) ?_
        refine bY _ o p ?_
        refine br_f (by decide) ?_
        refine cY _ o p ?_
        exact br_f (by decide) ⟨hin, nm_e ⟨hin, nm_e ⟨rfl, rfl⟩⟩⟩
      · refine cX _ ?_
        refine br_t rfl ?_
        refine aY _ o p ?_
        refine br_f (by decide) ?_
        refine bY _ o p ?_
        refine br_f (by decide) ?_
        refine cY _ o p ?_
        exact br_t rfl ⟨rfl, rfl⟩
    · refine bX _ ?_
      refine br_t rfl ?_
      refine aY _ o p ?_
      refine br_f (by decide) ?_
      refine bY _ o p ?_
      exact br_t rfl ⟨rfl, rfl⟩
  · refine aX _ ?_
    refine br_t rfl ?_
    refine aY _ o p ?_
    exact br_t rfl ⟨rfl, rfl⟩
theorem i_vc_pair {k : Nat} {u : SX} {v : SY} (I : i_Rel k u v) (hk : k + 4 ≤ 2048) (v1 : Int32) (v2 : Int32) (v3 : Int32) : wpX_pair (fun r u' => wpY_pair (fun r' v' => r' = r ∧ i_Rel (k + 4) u' v') v v1 v2 v3) u v1 v2 v3 := by
  cases I
  obtain ⟨o, p⟩ := u
  unfold wpX_pair wpY_pair
  rcases dl_pr v1 with ⟨⟨q, hq, rfl⟩, aX, aY⟩ | ⟨aX, aY⟩
  · refine aX _ ?_
    refine br_f (by decide) ?_
    by_cases h0 : v2 < 0
    · refine br_t h0 ?_
      refine aY _ o p ?_
      exact br_f (by decide) (br_t h0 ⟨rfl, rfl⟩)
    · obtain ⟨j, hj, rfl⟩ := nI_of h0
      by_cases h9 : j < 9
      · have n9 : ¬ (9 : Int32) ≤ nI j := nI_ge (b := 9) h9 (by decide)
        have n8 : ¬ (8 : Int32) < nI j := nI_nlt (b := j) (a := 8) (by omega) (by decide)
        refine br_f h0 (br_f n9 ?_)
        rcases dl_ct v3 with ⟨cX, cY⟩ | ⟨cX, cY⟩
        · have hin : vp_in (9 * nI q + nI j) 324 := pk_in (9 * q + j) 324 (by omega) (by rw [show (9 : Int32) = nI 9 from rfl, pk_mul, nI_add])
          refine cX _ ?_
          refine br_f (by decide) (nm_e ⟨hin, nm_e ⟨hin, nm_e ?_⟩⟩)
          refine aY _ o p ?_
          refine br_f (by decide) (br_f h0 (br_f n8 ?_))
          refine cY _ o p ?_
          exact br_f (by decide) ⟨hin, nm_e ⟨hin, nm_e ⟨rfl, rfl⟩⟩⟩
        · refine cX _ ?_
          refine br_t rfl ?_
          refine aY _ o p ?_
          refine br_f (by decide) (br_f h0 (br_f n8 ?_))
          refine cY _ o p ?_
          exact br_t rfl ⟨rfl, rfl⟩
      · have n9 : (9 : Int32) ≤ nI j := nI_le (a := 9) (by omega) hj
        have n8 : (8 : Int32) < nI j := nI_lt (a := 8) (by omega) hj
        refine br_f h0 (br_t n9 ?_)
        refine aY _ o p ?_
        exact br_f (by decide) (br_f h0 (br_t n8 ⟨rfl, rfl⟩))
  · refine aX _ ?_
    refine br_t rfl ?_
    refine aY _ o p ?_
    exact br_t rfl ⟨rfl, rfl⟩
theorem i_vc_relate {k : Nat} {u : SX} {v : SY} (I : i_Rel k u v) (hk : k + 4 ≤ 2048) (v1 : Int32) (v2 : Int32) (v3 : Int32) : wpX_relate (fun r u' => wpY_relate (fun r' v' => r' = r ∧ i_Rel (k + 4) u' v') v v1 v2 v3) u v1 v2 v3 := by
  cases I
  obtain ⟨o, p⟩ := u
  unfold wpX_relate wpY_relate
  rcases dl_pr v1 with ⟨⟨q, hq, rfl⟩, aX, aY⟩ | ⟨aX, aY⟩
  · refine aX _ ?_
    refine br_f (by decide) ?_
    rcases dl_ct v3 with ⟨cX, cY⟩ | ⟨cX, cY⟩
    · refine cX _ ?_
      refine br_f (by decide) ?_
      by_cases h0 : v2 = 0
      · obtain ⟨p', eX, eY⟩ := dl_rel o q v2 v3 0 hq (Or.inl ⟨h0, rfl⟩) 9 0 p (by omega)
        refine br_t h0 ⟨10, eX _ 10 (by omega) ?_⟩
        refine aY _ o p ?_
        refine br_f (by decide) ?_
        refine cY _ o p ?_
        exact br_f (by decide) ⟨10, eY _ 10 (by omega) ⟨rfl, rfl⟩⟩
      · obtain ⟨p', eX, eY⟩ := dl_rel o q v2 v3 1 hq (Or.inr ⟨h0, rfl⟩) 9 0 p (by omega)
        refine br_f h0 ⟨10, eX _ 10 (by omega) ?_⟩
        refine aY _ o p ?_
        refine br_f (by decide) ?_
        refine cY _ o p ?_
        exact br_f (by decide) ⟨10, eY _ 10 (by omega) ⟨rfl, rfl⟩⟩
    · refine cX _ ?_
      refine br_t rfl ?_
      refine aY _ o p ?_
      refine br_f (by decide) ?_
      refine cY _ o p ?_
      exact br_t rfl ⟨rfl, rfl⟩
  · refine aX _ ?_
    refine br_t rfl ?_
    refine aY _ o p ?_
    exact br_t rfl ⟨rfl, rfl⟩
theorem i_vc_clear {k : Nat} {u : SX} {v : SY} (I : i_Rel k u v) (hk : k + 4 ≤ 2048) : wpX_clear (fun u' => wpY_clear (fun v' => i_Rel (k + 4) u' v') v) u := by
  cases I
  obtain ⟨o, p⟩ := u
  obtain ⟨o', oX, oY⟩ := dl_clo p 18 0 o (by omega)
  obtain ⟨p', pX, pY⟩ := dl_clp o' 324 0 p (by omega)
  exact ⟨19, oX _ 19 (by omega) ⟨325, pX _ 325 (by omega) ⟨19, oY _ 19 (by omega) ⟨325, pY _ 325 (by omega) rfl⟩⟩⟩⟩
theorem i_vc_doll {k : Nat} {u : SX} {v : SY} (I : i_Rel k u v) (hk : k + 4 ≤ 2048) (v1 : Int32) : wpX_doll (fun r => wpY_doll (fun r' => r' = r ∧ i_Rel (k + 4) u v) v v1) u v1 := by
  cases I
  obtain ⟨o, p⟩ := u
  unfold wpX_doll wpY_doll
  rcases dl_var v1 with ⟨⟨i, hi, rfl⟩, aX, aY⟩ | ⟨aX, aY⟩
  · refine aX _ ?_
    refine br_f (by decide) ?_
    refine dl_xleast hi (fun b hb => ?_)
    refine aY _ o p ?_
    exact br_f (by decide) (dl_yleast hi (fun b' hb' => ⟨dl_Lu hb hb', rfl⟩))
  · refine aX _ ?_
    refine br_t rfl ?_
    refine aY _ o p ?_
    exact br_t rfl ⟨rfl, rfl⟩
theorem dl_ych {post : Int32 → Prop} {o p : Nat → Int32} (h : ∀ b, dl_L (fun _ => True) (dl_cost o p 0) 729 b → post b) : wpY_cheapest post (o, p) := by
  unfold wpY_cheapest wpY_doll
  refine br_f (by decide) (br_f (by decide) ?_)
  refine br_f (by decide) ?_
  exact dl_yleast (f := 0) (by decide) h
theorem i_vc_cheapest {k : Nat} {u : SX} {v : SY} (I : i_Rel k u v) (hk : k + 4 ≤ 2048) : wpX_cheapest (fun r => wpY_cheapest (fun r' => r' = r ∧ i_Rel (k + 4) u v) v) u := by
  cases I
  obtain ⟨o, p⟩ := u
  unfold wpX_cheapest
  exact dl_xleast (f := 0) (by decide) (fun b hb => dl_ych (fun b' hb' => ⟨dl_Lu hb hb', rfl⟩))
theorem i_vc_value {k : Nat} {u : SX} {v : SY} (I : i_Rel k u v) (hk : k + 4 ≤ 2048) (v1 : Int32) : wpX_value (fun r => wpY_value (fun r' => r' = r ∧ i_Rel (k + 4) u v) v v1) u v1 := by
  cases I
  obtain ⟨o, p⟩ := u
  unfold wpX_value wpY_value
  rcases dl_var v1 with ⟨⟨i, hi, rfl⟩, aX, aY⟩ | ⟨aX, aY⟩
  · refine aX _ ?_
    refine br_f (by decide) ?_
    refine dl_xfirst (fun b r hr => ?_)
    rcases hr with ⟨h1, h2, h3⟩ | ⟨f, h1, h2, h3, h4⟩
    · refine br_t h2 ?_
      refine aY _ o p ?_
      refine br_f (by decide) ?_
      refine dl_yfirst (fun b' r' hr' => ?_)
      exact br_t ((dl_Fu (Or.inl ⟨h1, h2, h3⟩) hr').trans h2) ⟨rfl, rfl⟩
    · have n4 : ¬ r = -4 := fun z => dl_n4 h1 (h2.symm.trans z)
      refine br_f n4 ?_
      rw [h2]
      refine dl_xval h1 hi ?_
      refine aY _ o p ?_
      refine br_f (by decide) ?_
      refine dl_yfirst (fun b' r' hr' => ?_)
      have e : r' = r := dl_Fu (Or.inr ⟨f, h1, h2, h3, h4⟩) hr'
      refine br_f (fun z => n4 (e.symm.trans z)) ?_
      rw [e, h2]
      exact dl_yval h1 hi ⟨rfl, rfl⟩
  · refine aX _ ?_
    refine br_t rfl ?_
    refine aY _ o p ?_
    exact br_t rfl ⟨rfl, rfl⟩
theorem i_vc_with {k : Nat} {u : SX} {v : SY} (I : i_Rel k u v) (hk : k + 4 ≤ 2048) (v1 : Int32) (v2 : Int32) : wpX_with (fun r => wpY_with (fun r' => r' = r ∧ i_Rel (k + 4) u v) v v1 v2) u v1 v2 := by
  cases I
  obtain ⟨o, p⟩ := u
  unfold wpX_with wpY_with
  rcases dl_var v1 with ⟨⟨i, hi, rfl⟩, aX, aY⟩ | ⟨aX, aY⟩
  · refine aX _ ?_
    refine br_f (by decide) ?_
    rcases dl_vlu v2 with ⟨⟨x, hx, rfl⟩, bX, bY⟩ | ⟨bX, bY⟩
    · refine bX _ ?_
      refine br_f (by decide) ⟨730, dl_xw _ o p i x hi hx (fun b hb => ?_) 729 0 730 (-4) (by omega) (by omega) dl_L0⟩
      refine aY _ o p ?_
      refine br_f (by decide) ?_
      refine bY _ o p ?_
      exact br_f (by decide) ⟨730, dl_yw _ o p i x hi hx (fun b' hb' => ⟨dl_Lu hb hb', rfl⟩) 729 0 730 (-4) (by omega) (by omega) dl_L0⟩
    · refine bX _ ?_
      refine br_t rfl ?_
      refine aY _ o p ?_
      refine br_f (by decide) ?_
      refine bY _ o p ?_
      exact br_t rfl ⟨rfl, rfl⟩
  · refine aX _ ?_
    refine br_t rfl ?_
    refine aY _ o p ?_
    exact br_t rfl ⟨rfl, rfl⟩
theorem i_vc_settled {k : Nat} {u : SX} {v : SY} (I : i_Rel k u v) (hk : k + 4 ≤ 2048) (v1 : Int32) : wpX_settled (fun r => wpY_settled (fun r' => r' = r ∧ i_Rel (k + 4) u v) v v1) u v1 := by
  cases I
  obtain ⟨o, p⟩ := u
  unfold wpX_settled wpY_settled
  rcases dl_var v1 with ⟨⟨i, hi, rfl⟩, aX, aY⟩ | ⟨aX, aY⟩
  · refine aX _ ?_
    refine br_f (by decide) ?_
    refine dl_xfirst (fun b r hr => ?_)
    rcases hr with ⟨_, h2, h3⟩ | ⟨f, h1, h2, _, h4, h5, h6⟩
    · refine br_t h2 ?_
      refine dl_ych (fun L hL => ?_)
      refine aY _ o p ?_
      refine br_f (by decide) (br_t ?_ ⟨rfl, rfl⟩)
      by_cases e : L = -4
      · exact e
      · obtain ⟨a, ha, _, q⟩ := hL.2 e
        exact absurd (q.symm.trans (h3 a ha)) e
    · have hLf : dl_L (fun _ => True) (dl_cost o p 0) 729 (dl_cost o p 0 f) := ⟨fun a ha _ hc => ⟨h4, h5 a ha hc⟩, fun _ => ⟨f, h1, trivial, rfl⟩⟩
      refine br_f (fun z => dl_n4 h1 (h2.symm.trans z)) ?_
      rw [h2]
      refine dl_xcost (f := 0) h1 (by decide) ?_
      refine dl_xval h1 hi (nm_r (nI_1 f) ⟨730, dl_xt _ o p i (dl_dg f i) (dl_cost o p 0 f) hi (dl_dg3 f i) (728 - f) (f + 1) 730 (by omega) (by omega) (fun hD => ?_) (fun hD => ?_)⟩)
      · refine dl_ych (fun L hL => ?_)
        obtain rfl : L = dl_cost o p 0 f := dl_Lu hLf hL
        refine aY _ o p ?_
        refine br_f (by decide) (br_f h4 ⟨4, dl_yt hi h1 hLf h4 (fun z => ?_) (fun _ => ⟨rfl, rfl⟩)⟩)
        obtain ⟨a, _, a2, a3, a4⟩ := hD
        exact absurd (z a a2 a4) a3
      · refine dl_ych (fun L hL => ?_)
        obtain rfl : L = dl_cost o p 0 f := dl_Lu hLf hL
        refine aY _ o p ?_
        refine br_f (by decide) (br_f h4 ⟨4, dl_yt hi h1 hLf h4 (fun _ => ⟨rfl, rfl⟩) (fun z => absurd (fun a ha e => ?_) z)⟩)
        by_cases q : dl_dg a i = dl_dg f i
        · exact q
        · rcases Nat.lt_trichotomy a f with l | l | l
          · exact absurd e (h6 a l)
          · rw [l]
          · exact absurd ⟨a, l, ha, q, e⟩ hD
  · refine aX _ ?_
    refine br_t rfl ?_
    refine dl_ych (fun L hL => ?_)
    refine aY _ o p ?_
    exact br_t rfl ⟨rfl, rfl⟩
theorem i_vc_second {k : Nat} {u : SX} {v : SY} (I : i_Rel k u v) (hk : k + 4 ≤ 2048) : wpX_second (fun r => wpY_second (fun r' => r' = r ∧ i_Rel (k + 4) u v) v) u := by
  cases I
  obtain ⟨o, p⟩ := u
  unfold wpX_second wpY_second
  refine dl_xfirst (fun b r hr => ?_)
  refine ⟨730, dl_xs _ o p r (fun w hw => ?_) 729 0 730 (-4) (by omega) (by omega) dl_L0⟩
  refine dl_yfirst (fun b' r' hr' => ?_)
  have e : r' = r := dl_Fu hr hr'
  rw [e]
  exact ⟨730, dl_ys _ o p r (fun w' hw' => ⟨dl_Lu hw hw', rfl⟩) 729 0 730 (-4) (by omega) (by omega) dl_L0⟩
theorem i_vc_zigzag {k : Nat} {u : SX} {v : SY} (I : i_Rel k u v) (hk : k + 4 ≤ 2048) : wpX_zigzag (fun r => wpY_zigzag (fun r' => r' = r ∧ i_Rel (k + 4) u v) v) u := by
  cases I
  obtain ⟨o, p⟩ := u
  exact ⟨730, dl_xz _ o p (fun w hw => ⟨730, dl_yz _ o p (fun w' hw' => ⟨dl_Lu hw hw', rfl⟩) 729 0 730 (-4) (by omega) (by omega) dl_L0⟩) 729 0 730 (-4) (by omega) (by omega) dl_L0⟩
