/-! fewest, cheapest: both tables in lockstep -/
section
variable {A B C : Nat → Int32} {s t j : Nat} {x1 x2 : Int32}
theorem ca_in (hs : s ≤ 32) (ht : t ≤ 24) (hj : j ≤ t) : ∀ (d i : Nat) (D : Nat → Int32), i + d = j → (∀ i', i' < j → C i' = D i') →
    ∃ D' : Nat → Int32, (∀ i', i' < j → C i' = D' i') ∧
      (∀ (post : Int32 → SX → Prop) (J9 : Int32 → (Nat → Int32) → (Nat → Int32) → (Nat → Int32) → Prop), J9 (nI (j + 1)) A B (upd C j (D' j)) → wX_leastCost_32 post J9 x1 x2 (nI j) (nI s) (nI t) A B C (d + 1) (D j) (nI i)) ∧
      (∀ (post : Int32 → SY → Prop) (J31 : Int32 → (Nat → Int32) → (Nat → Int32) → (Nat → Int32) → Prop), J31 (nI (j + 1)) A B D' → wY_cheapest_58 post J31 x1 x2 (nI j) (nI s) (nI t) (d + 1) (nI i) A B D) := by
  intro d
  induction d with
  | zero =>
    intro i D hi hag
    have e : nI j ≤ nI i := nI_le (by omega) (by omega)
    refine ⟨D, hag, fun post J9 h => br_t e ⟨pk_in j 25 (by omega), nm_r (e' := upd C j (D j)) (by rw [nI_clamp (by omega)]) (nm_r (nI_1 j) h)⟩, fun post J31 h => br_t e (nm_r (nI_1 j) h)⟩
  | succ d ih =>
    intro i D hi hag
    have e : ¬ nI j ≤ nI i := nI_ge (by omega) (by omega)
    have ci : (nI i).toNatClampNeg = i := nI_clamp (by omega)
    have cj : (nI j).toNatClampNeg = j := nI_clamp (by omega)
    have vi : vp_in (nI i) 25 := pk_in i 25 (by omega)
    have vj : vp_in (nI j) 25 := pk_in j 25 (by omega)
    have e6 : C (nI i).toNatClampNeg + x1 = D i + x1 := by rw [ci, hag i (by omega)]
    obtain ⟨r, hr⟩ := ca_PL_ex (A := A) (B := B) (s := s) (t := t) (i := i) (n := j - i)
    by_cases c1 : D j ≤ D i + x1
    · obtain ⟨D', h1, hX, hY⟩ := ih (i + 1) D (by omega) hag
      exact ⟨D', h1, fun post J9 h => br_f e ⟨vi, nm_r e6 (br_t c1 (nm_r (nI_1 i) (hX post J9 h)))⟩, fun post J31 h => br_f e ⟨vi, vj, br_t (by rw [ci, cj]; exact c1) (nm_r (nI_1 i) (hY post J31 h))⟩⟩
    · by_cases c2 : r = -4
      · obtain ⟨D', h1, hX, hY⟩ := ih (i + 1) D (by omega) hag
        refine ⟨D', h1, fun post J9 h => br_f e ⟨vi, nm_r e6 (br_f c1 (ca_xpl' hs ht (by omega) hj hr (br_t c2 (nm_r (nI_1 i) (hX post J9 h)))))⟩, fun post J31 h => br_f e ⟨vi, vj, br_f (by rw [ci, cj]; exact c1) ?_⟩⟩
        rw [pk_sub (by omega)]
        exact ca_ypl hs ht (by omega) hr (br_t c2 (nm_r (nI_1 i) (hY post J31 h)))
      · obtain ⟨D', h1, hX, hY⟩ := ih (i + 1) (upd D j (D i + x1)) (by omega) (fun i' hi' => by rw [pk_un (by omega)]; exact hag i' hi')
        rw [pk_us] at hX
        refine ⟨D', h1, fun post J9 h => br_f e ⟨vi, nm_r e6 (br_f c1 (ca_xpl' hs ht (by omega) hj hr (br_f c2 (nm_r (nI_1 i) (hX post J9 h)))))⟩, fun post J31 h => br_f e ⟨vi, vj, br_f (by rw [ci, cj]; exact c1) ?_⟩⟩
        rw [pk_sub (by omega)]
        exact ca_ypl hs ht (by omega) hr (br_f c2 ⟨vi, vj, nm_r (e' := upd D j (D i + x1)) (by rw [ci, cj]) (nm_r (nI_1 i) (hY post J31 h))⟩)
theorem ca_out (hs : s ≤ 32) (ht : t ≤ 24) : ∀ (d j : Nat) (C D : Nat → Int32), j + 1 + d = t + 1 → (∀ i', i' < j + 1 → C i' = D i') →
    ∃ (r : Int32) (C' D' : Nat → Int32),
      (∀ post : Int32 → SX → Prop, post r (nI s, nI t, A, B, C') → wX_leastCost_9 post x1 x2 (nI s) (nI t) (d + 1) (nI (j + 1)) A B C) ∧
      (∀ post : Int32 → SY → Prop, post r (nI s, nI t, A, B, D') → wY_cheapest_31 post x1 x2 (nI s) (nI t) (d + 1) (nI (j + 1)) A B D) := by
  intro d
  induction d with
  | zero =>
    intro j C D hj hag
    have e : nI t < nI (j + 1) := nI_lt (by omega) (by omega)
    have ct : (nI t).toNatClampNeg = t := nI_clamp (by omega)
    refine ⟨C t, C, D, fun post h => br_t e ⟨pk_in t 25 (by omega), ?_⟩, fun post h => br_t e ⟨pk_in t 25 (by omega), ?_⟩⟩
    · rw [ct]; exact h
    · rw [ct, ← hag t (by omega)]; exact h
  | succ d ih =>
    intro j C D hj hag
    have e : ¬ nI t < nI (j + 1) := nI_nlt (by omega) (by omega)
    have cj : (nI (j + 1)).toNatClampNeg = j + 1 := nI_clamp (by omega)
    have cp : (nI (j + 1) - 1).toNatClampNeg = j := by rw [nI_pred]; exact nI_clamp (by omega)
    have vj : vp_in (nI (j + 1)) 25 := pk_in (j + 1) 25 (by omega)
    have vp : vp_in (nI (j + 1) - 1) 25 := pk_in j 25 (by omega) (nI_pred j)
    obtain ⟨D1, h1, hX, hY⟩ := ca_in (A := A) (B := B) (C := C) (s := s) (t := t) (j := j + 1) (x1 := x1) (x2 := x2) hs ht (by omega) (j + 1) 0 (upd D (j + 1) (D j + x2)) (by omega) (fun i' hi' => by rw [pk_un (by omega)]; exact hag i' hi')
    rw [pk_us] at hX
    obtain ⟨r, C2, D2, gX, gY⟩ := ih (j + 1) (upd C (j + 1) (D1 (j + 1))) D1 (by omega) (fun i' hi' => by
      by_cases z : i' = j + 1
      · rw [z, pk_us]
      · rw [pk_un z]; exact h1 i' (by omega))
    refine ⟨r, C2, D2, fun post h => br_f e ⟨vp, nm_r (e' := D j + x2) (by rw [cp, hag j (by omega)]) ⟨j + 1 + 1, hX post _ (gX post h)⟩⟩, fun post h => br_f e ⟨vp, vj, nm_r (e' := upd D (j + 1) (D j + x2)) (by rw [cp, cj]) ⟨j + 1 + 1, hY post _ (gY post h)⟩⟩⟩
theorem ca_cost (hs : s ≤ 32) (ht : t ≤ 24) (A B C D : Nat → Int32) (x1 x2 : Int32) :
    ∃ (r : Int32) (C' D' : Nat → Int32),
      (∀ post : Int32 → SX → Prop, post r (nI s, nI t, A, B, C') → wpX_leastCost post (nI s, nI t, A, B, C) x1 x2) ∧
      (∀ post : Int32 → SY → Prop, post r (nI s, nI t, A, B, D') → ∃ n31 : Nat, wY_cheapest_31 post x1 x2 (nI s) (nI t) n31 1 A B (upd D 0 0)) := by
  obtain ⟨r, C', D', hX, hY⟩ := ca_out (A := A) (B := B) (s := s) (t := t) (x1 := x1) (x2 := x2) hs ht t 0 (upd C 0 0) (upd D 0 0) (by omega) (fun i' hi' => by
    cases (show i' = 0 by omega)
    rw [pk_us, pk_us])
  exact ⟨r, C', D', fun post h => nm_e ⟨t + 1, hX post h⟩, fun post h => ⟨t + 1, hY post h⟩⟩
end
theorem ca_xpr {post : Int32 → Prop} {x : Int32} (h0 : x < 0 ∨ (¬ x < 0 ∧ 100 < x) → post 0) (h1 : ¬ x < 0 → ¬ 100 < x → post 1) : wpX_isPrice post x :=
  br_c (fun a => h0 (Or.inl a)) (fun a => br_c (fun b => h0 (Or.inr ⟨a, b⟩)) (fun b => h1 a b))
theorem i_vc_cheapest {k : Nat} {u : SX} {v : SY} (I : i_Rel k u v) (hk : k + 3 ≤ 1536) (v1 : Int32) (v2 : Int32) : wpX_cheapest (fun r u' => wpY_cheapest (fun r' v' => r' = r ∧ i_Rel (k + 3) u' v') v v1 v2) u v1 v2 := by
  have J := i_up I
  obtain ⟨s, t, A, B, C, D, hs, ht, hA, hB, rfl, rfl⟩ := I
  unfold wpX_cheapest
  dsimp only
  refine ca_xpr (fun a => br_t rfl ?_) (fun a1 a2 => br_f ca_10 (ca_xpr (fun b => br_t rfl ?_) (fun b1 b2 => br_f ca_10 ?_)))
  · rcases a with a | ⟨a, b⟩
    · exact br_t a ⟨rfl, J⟩
    · exact br_f a (br_t b ⟨rfl, J⟩)
  · rcases b with b | ⟨b, c⟩
    · exact br_f a1 (br_f a2 (br_t b ⟨rfl, J⟩))
    · exact br_f a1 (br_f a2 (br_f b (br_f (Int32.not_le.mpr c) ⟨rfl, J⟩)))
  · obtain ⟨r, C', D', hX, hY⟩ := ca_cost hs ht A B C D v1 v2
    refine hX _ ?_
    dsimp only
    refine br_f a1 (br_f a2 (br_f b1 (br_t (Int32.not_lt.mp b2) (nm_e (hY _ ⟨rfl, ?_⟩)))))
    exact ⟨s, t, A, B, C', D', hs, ht, hA, hB, rfl, rfl⟩
theorem i_vc_fewest {k : Nat} {u : SX} {v : SY} (I : i_Rel k u v) (hk : k + 3 ≤ 1536) : wpX_fewest (fun r u' => wpY_fewest (fun r' v' => r' = r ∧ i_Rel (k + 3) u' v') v) u := by
  obtain ⟨s, t, A, B, C, D, hs, ht, hA, hB, rfl, rfl⟩ := I
  unfold wpX_fewest wpY_fewest
  dsimp only
  obtain ⟨r, C', D', hX, hY⟩ := ca_cost hs ht A B C D 1 1
  refine hX _ ?_
  dsimp only
  refine br_f (by decide) (br_f (by decide) (br_f (by decide) (br_t (by decide) (nm_e (hY _ ⟨rfl, ?_⟩)))))
  exact ⟨s, t, A, B, C', D', hs, ht, hA, hB, rfl, rfl⟩
