/-! source, target, quote, change, accept, clearSource, clearTarget, lengths, the start -/
theorem ca_let (x : Int32) : (x < 0 ∨ ∃ j, 4 ≤ j ∧ j < 2 ^ 31 ∧ x = nI j) ∨ ∃ c, c < 4 ∧ x = nI c := by
  by_cases h : x < 0
  · exact Or.inl (Or.inl h)
  · obtain ⟨j, hj, e⟩ := nI_of h
    by_cases h4 : j < 4
    · exact Or.inr ⟨j, h4, e⟩
    · exact Or.inl (Or.inr ⟨j, by omega, hj, e⟩)
section
variable {post : Int32 → Prop} {x : Int32} {c : Nat}
theorem ca_xil_b (h : x < 0 ∨ ∃ j, 4 ≤ j ∧ j < 2 ^ 31 ∧ x = nI j) (hp : post 0) : wpX_isLetter post x := by
  rcases h with h | ⟨j, h1, h2, rfl⟩
  · exact br_t h hp
  · exact br_f (nI_pos h2) (pk_le 4 j (fun _ => hp) (fun z => by omega))
theorem ca_xil_g (h : c < 4) (hp : post 1) : wpX_isLetter post (nI c) :=
  br_f (nI_pos (by omega)) (pk_le 4 c (fun z => by omega) (fun _ => hp))
theorem ca_yil_b {v : SY} (h : x < 0 ∨ ∃ j, 4 ≤ j ∧ j < 2 ^ 31 ∧ x = nI j) (hp : post 0) : wpY_isLetter post v x := by
  rcases h with h | ⟨j, h1, h2, rfl⟩
  · exact br_t h hp
  · exact br_f (nI_pos h2) (pk_lt 3 j (fun _ => hp) (fun z => by omega))
theorem ca_yil_g {v : SY} (h : c < 4) (hp : post 1) : wpY_isLetter post v (nI c) :=
  br_f (nI_pos (by omega)) (pk_lt 3 c (fun z => by omega) (fun _ => hp))
theorem ca_L_u {A : Nat → Int32} {n : Nat} (h : ca_L A n) (hc : c < 4) : ca_L (upd A n (nI c)) (n + 1) := by
  intro j hj
  by_cases e : j = n
  · exact ⟨c, hc, by rw [e, pk_us]⟩
  · rw [pk_un e]; exact h j (by omega)
theorem ca_L_w {A : Nat → Int32} {n i : Nat} (h : ca_L A n) (hc : c < 4) : ca_L (upd A i (nI c)) n := by
  intro j hj
  by_cases e : j = i
  · exact ⟨c, hc, by rw [e, pk_us]⟩
  · rw [pk_un e]; exact h j hj
end
theorem i_vc0 : wpX_init (fun u => wpY_init (fun v => i_Rel 0 u v)) :=
  ⟨0, 0, fun _ => 0, fun _ => 0, fun _ => 0, fun _ => 0, by omega, by omega, fun j hj => absurd hj (Nat.not_lt_zero j), fun j hj => absurd hj (Nat.not_lt_zero j), rfl, rfl⟩
theorem i_vc_source {k : Nat} {u : SX} {v : SY} (I : i_Rel k u v) (hk : k + 3 ≤ 1536) (v1 : Int32) : wpX_source (fun r u' => wpY_source (fun r' v' => r' = r ∧ i_Rel (k + 3) u' v') v v1) u v1 := by
  have J := i_up I
  obtain ⟨s, t, A, B, C, D, hs, ht, hA, hB, rfl, rfl⟩ := I
  unfold wpX_source wpY_source
  dsimp only
  rcases ca_let v1 with h | ⟨c, hc, rfl⟩
  · exact ca_xil_b h (br_t rfl (ca_yil_b h (br_t rfl ⟨rfl, J⟩)))
  · refine ca_xil_g hc (br_f ca_10 (pk_lt s 32 (fun e => ⟨pk_in s 32 e, nm_r (e' := upd A s (nI c)) (by rw [nI_clamp (by omega)]) (nm_r (nI_1 s) (ca_yil_g hc (br_f ca_10 (pk_eq s 32 (fun e2 => by omega) (fun e2 => ⟨pk_in s 32 e, nm_r (e' := upd A s (nI c)) (by rw [nI_clamp (by omega)]) (nm_r (nI_1 s) ⟨rfl, ?_⟩)⟩)))))⟩) (fun e => ca_yil_g hc (br_f ca_10 (pk_eq s 32 (fun _ => ⟨rfl, J⟩) (fun e2 => by omega))))))
    exact ⟨s + 1, t, upd A s (nI c), B, C, D, e, ht, ca_L_u hA hc, hB, rfl, rfl⟩
theorem i_vc_target {k : Nat} {u : SX} {v : SY} (I : i_Rel k u v) (hk : k + 3 ≤ 1536) (v1 : Int32) : wpX_target (fun r u' => wpY_target (fun r' v' => r' = r ∧ i_Rel (k + 3) u' v') v v1) u v1 := by
  have J := i_up I
  obtain ⟨s, t, A, B, C, D, hs, ht, hA, hB, rfl, rfl⟩ := I
  unfold wpX_target wpY_target
  dsimp only
  rcases ca_let v1 with h | ⟨c, hc, rfl⟩
  · exact ca_xil_b h (br_t rfl (ca_yil_b h (br_t rfl ⟨rfl, J⟩)))
  · refine ca_xil_g hc (br_f ca_10 (pk_lt t 24 (fun e => ⟨pk_in t 24 e, nm_r (e' := upd B t (nI c)) (by rw [nI_clamp (by omega)]) (nm_r (nI_1 t) (ca_yil_g hc (br_f ca_10 (pk_eq t 24 (fun e2 => by omega) (fun e2 => ⟨pk_in t 24 e, nm_r (e' := upd B t (nI c)) (by rw [nI_clamp (by omega)]) (nm_r (nI_1 t) ⟨rfl, ?_⟩)⟩)))))⟩) (fun e => ca_yil_g hc (br_f ca_10 (pk_eq t 24 (fun _ => ⟨rfl, J⟩) (fun e2 => by omega))))))
    exact ⟨s, t + 1, A, upd B t (nI c), C, D, hs, e, hA, ca_L_u hB hc, rfl, rfl⟩
theorem i_vc_change {k : Nat} {u : SX} {v : SY} (I : i_Rel k u v) (hk : k + 3 ≤ 1536) (v1 : Int32) (v2 : Int32) : wpX_change (fun r u' => wpY_change (fun r' v' => r' = r ∧ i_Rel (k + 3) u' v') v v1 v2) u v1 v2 := by
  have J := i_up I
  obtain ⟨s, t, A, B, C, D, hs, ht, hA, hB, rfl, rfl⟩ := I
  unfold wpX_change wpY_change
  dsimp only
  by_cases h0 : v1 < 0
  · exact br_t h0 (br_t h0 ⟨rfl, J⟩)
  · obtain ⟨i, hi, rfl⟩ := nI_of h0
    by_cases h1 : nI t ≤ nI i
    · exact br_f h0 (br_t h1 (br_f h0 (br_t h1 ⟨rfl, J⟩)))
    · have hit : i < t := by
        apply Nat.lt_of_not_le
        intro z
        exact h1 (nI_le z hi)
      rcases ca_let v2 with h | ⟨c, hc, rfl⟩
      · exact br_f h0 (br_f h1 (ca_xil_b h (br_t rfl (br_f h0 (br_f h1 (ca_yil_b h (br_t rfl ⟨rfl, J⟩)))))))
      · have vi : vp_in (nI i) 24 := pk_in i 24 (by omega)
        refine br_f h0 (br_f h1 (ca_xil_g hc (br_f ca_10 ⟨vi, nm_e ⟨vi, nm_r (e' := upd B i (nI c)) (by rw [nI_clamp hi]) (br_f h0 (br_f h1 (ca_yil_g hc (br_f ca_10 ⟨vi, nm_e ⟨vi, nm_r (e' := upd B i (nI c)) (by rw [nI_clamp hi]) ⟨rfl, ?_⟩⟩⟩))))⟩⟩)))
        exact ⟨s, t, A, upd B i (nI c), C, D, hs, ht, hA, ca_L_w hB hc, rfl, rfl⟩
theorem i_vc_clearSource {k : Nat} {u : SX} {v : SY} (I : i_Rel k u v) (hk : k + 3 ≤ 1536) : wpX_clearSource (fun u' => wpY_clearSource (fun v' => i_Rel (k + 3) u' v') v) u := by
  obtain ⟨s, t, A, B, C, D, hs, ht, hA, hB, rfl, rfl⟩ := I
  exact ⟨0, t, A, B, C, D, by omega, ht, fun j hj => absurd hj (Nat.not_lt_zero j), hB, rfl, rfl⟩
theorem i_vc_clearTarget {k : Nat} {u : SX} {v : SY} (I : i_Rel k u v) (hk : k + 3 ≤ 1536) : wpX_clearTarget (fun u' => wpY_clearTarget (fun v' => i_Rel (k + 3) u' v') v) u := by
  obtain ⟨s, t, A, B, C, D, hs, ht, hA, hB, rfl, rfl⟩ := I
  exact ⟨s, 0, A, B, C, D, hs, by omega, hA, fun j hj => absurd hj (Nat.not_lt_zero j), rfl, rfl⟩
theorem i_vc_lengths {k : Nat} {u : SX} {v : SY} (I : i_Rel k u v) (hk : k + 3 ≤ 1536) : wpX_lengths (fun r => wpY_lengths (fun r' => r' = r ∧ i_Rel (k + 3) u v) v) u := by
  have J := i_up I
  obtain ⟨s, t, A, B, C, D, hs, ht, hA, hB, rfl, rfl⟩ := I
  exact ⟨rfl, J⟩
theorem ca_q {A C D : Nat → Int32} {s t a n : Nat} (hs : s ≤ 32) (ht : t + n ≤ 24) (ha : a + n ≤ s) (hA : ca_L A s) : ∀ (d q : Nat) (B : Nat → Int32), q + d = n → ca_L B (t + q) →
    ∃ B' : Nat → Int32, ca_L B' (t + n) ∧
      (∀ post : Int32 → SX → Prop, post (nI (t + n)) (nI s, nI (t + n), A, B', C) → wX_quote_36 post (nI a) (nI n) (nI s) (nI t) (d + 1) (nI q) A B C) ∧
      (∀ post : Int32 → SY → Prop, post (nI (t + n)) (nI s, nI (t + n), A, B', D) → wY_quote_44 post (nI a) (nI n) (nI s) (d + 1) (nI q) (nI (t + q)) A B D) := by
  intro d
  induction d with
  | zero =>
    intro q B hq hB
    cases (show q = n by omega)
    have e : nI n ≤ nI n := nI_le (Nat.le_refl _) (by omega)
    exact ⟨B, hB, fun post h => br_t e (nm_r (nI_add t n) h), fun post h => br_t e h⟩
  | succ d ih =>
    intro q B hq hB
    have e : ¬ nI n ≤ nI q := nI_ge (by omega) (by omega)
    have va : vp_in (nI a + nI q) 32 := pk_in (a + q) 32 (by omega) (nI_add a q)
    have vt : vp_in (nI t + nI q) 24 := pk_in (t + q) 24 (by omega) (nI_add t q)
    have vt' : vp_in (nI (t + q)) 24 := pk_in (t + q) 24 (by omega)
    obtain ⟨c, hc, ec⟩ := hA (a + q) (by omega)
    have ea : A (nI a + nI q).toNatClampNeg = nI c := by rw [pk_cl (a + q) (nI_add a q)]; exact ec
    have et : (nI t + nI q).toNatClampNeg = t + q := pk_cl (t + q) (nI_add t q)
    have et' : (nI (t + q)).toNatClampNeg = t + q := nI_clamp (by omega)
    obtain ⟨B', h1, hX, hY⟩ := ih (q + 1) (upd B (t + q) (nI c)) (by omega) (ca_L_u hB hc)
    refine ⟨B', h1, fun post h => br_f e ⟨va, vt, nm_r (e' := upd B (t + q) (nI c)) (by rw [ea, et]) (nm_r (nI_1 q) (hX post h))⟩, fun post h => br_f e ⟨va, vt', nm_r (e' := upd B (t + q) (nI c)) (by rw [ea, et']) (nm_r (nI_1 (t + q)) (nm_r (nI_1 q) (hY post h)))⟩⟩
theorem ca_le24 {t n : Nat} {P Q : Prop} (ht : t ≤ 24) (hn : n < 2 ^ 30) (f : t + n ≤ 24 → P) (g : 24 < t + n → Q) : (nI n ≤ 24 - nI t → P) ∧ (¬ nI n ≤ 24 - nI t → Q) :=
  pk_le n (24 - t) (fun z => f (by omega)) (fun z => g (by omega)) rfl (pk_sub (a := 24) ht)
theorem i_vc_quote {k : Nat} {u : SX} {v : SY} (I : i_Rel k u v) (hk : k + 3 ≤ 1536) (v1 : Int32) (v2 : Int32) : wpX_quote (fun r u' => wpY_quote (fun r' v' => r' = r ∧ i_Rel (k + 3) u' v') v v1 v2) u v1 v2 := by
  have J := i_up I
  obtain ⟨s, t, A, B, C, D, hs, ht, hA, hB, rfl, rfl⟩ := I
  by_cases h1 : v1 < 0
  · exact br_t h1 (br_t h1 ⟨rfl, J⟩)
  · by_cases h2 : v2 < 0
    · exact br_f h1 (br_t h2 (br_f h1 (br_t h2 ⟨rfl, J⟩)))
    · obtain ⟨a, ha, rfl⟩ := nI_of h1
      obtain ⟨n, hn, rfl⟩ := nI_of h2
      by_cases hsa : s < a
      · have hlt := ca_sneg hs ha hsa
        have h3 : ¬ nI n ≤ nI s - nI a := fun z => h2 (Int32.lt_of_le_of_lt z hlt)
        exact br_f h1 (br_f h2 (br_f h3 (br_f h1 (br_f h2 (br_t (nI_lt hsa ha) ⟨rfl, J⟩)))))
      · have h3 : ¬ nI s < nI a := nI_nlt (by omega) (by omega)
        by_cases hna : n ≤ s - a
        · have h4 : nI n ≤ nI s - nI a := by rw [pk_sub (by omega)]; exact nI_le hna (by omega)
          refine br_f h1 (br_f h2 (br_t h4 (ca_le24 ht (by omega) (fun z => ?_) (fun z => ?_))))
          · obtain ⟨B', g1, hX, hY⟩ := ca_q (A := A) (C := C) (D := D) (s := s) (t := t) (a := a) (n := n) hs z (by omega) hA n 0 B (by omega) hB
            refine ⟨n + 1, hX _ (br_f h1 (br_f h2 (br_f h3 (br_t h4 (pk_le (t + n) 24 (fun _ => ⟨n + 1, hY _ ⟨rfl, ?_⟩⟩) (fun w => by omega) (nI_add t n))))))⟩
            exact ⟨s, t + n, A, B', C, D, hs, z, hA, g1, rfl, rfl⟩
          · exact br_f h1 (br_f h2 (br_f h3 (br_t h4 (pk_le (t + n) 24 (fun w => by omega) (fun _ => ⟨rfl, J⟩) (nI_add t n)))))
        · have h4 : ¬ nI n ≤ nI s - nI a := by rw [pk_sub (by omega)]; exact nI_ge (by omega) hn
          exact br_f h1 (br_f h2 (br_f h4 (br_f h1 (br_f h2 (br_f h3 (br_f h4 ⟨rfl, J⟩))))))
theorem ca_a {B C D : Nat → Int32} {s t : Nat} (hs : s + t ≤ 32) (ht : t ≤ 24) (hB : ca_L B t) : ∀ (d q : Nat) (A : Nat → Int32), q + d = t → ca_L A (s + q) →
    ∃ A' : Nat → Int32, ca_L A' (s + t) ∧
      (∀ post : Int32 → SX → Prop, post (nI (s + t)) (nI (s + t), 0, A', B, C) → wX_accept_19 post (nI s) (nI t) (d + 1) (nI q) A B C) ∧
      (∀ post : Int32 → SY → Prop, post (nI (s + t)) (nI (s + t), 0, A', B, D) → wY_accept_19 post (nI t) (d + 1) (nI q) (nI (s + q)) A B D) := by
  intro d
  induction d with
  | zero =>
    intro q A hq hA
    cases (show q = t by omega)
    have e : nI t ≤ nI t := nI_le (Nat.le_refl _) (by omega)
    exact ⟨A, hA, fun post h => br_t e (nm_r (nI_add s t) h), fun post h => br_t e h⟩
  | succ d ih =>
    intro q A hq hA
    have e : ¬ nI t ≤ nI q := nI_ge (by omega) (by omega)
    have va : vp_in (nI q) 24 := pk_in q 24 (by omega)
    have vt : vp_in (nI s + nI q) 32 := pk_in (s + q) 32 (by omega) (nI_add s q)
    have vt' : vp_in (nI (s + q)) 32 := pk_in (s + q) 32 (by omega)
    obtain ⟨c, hc, ec⟩ := hB q (by omega)
    have ea : B (nI q).toNatClampNeg = nI c := by rw [nI_clamp (by omega)]; exact ec
    have et : (nI s + nI q).toNatClampNeg = s + q := pk_cl (s + q) (nI_add s q)
    have et' : (nI (s + q)).toNatClampNeg = s + q := nI_clamp (by omega)
    obtain ⟨A', h1, hX, hY⟩ := ih (q + 1) (upd A (s + q) (nI c)) (by omega) (ca_L_u hA hc)
    refine ⟨A', h1, fun post h => br_f e ⟨va, vt, nm_r (e' := upd A (s + q) (nI c)) (by rw [ea, et]) (nm_r (nI_1 q) (hX post h))⟩, fun post h => br_f e ⟨va, vt', nm_r (e' := upd A (s + q) (nI c)) (by rw [ea, et']) (nm_r (nI_1 (s + q)) (nm_r (nI_1 q) (hY post h)))⟩⟩
theorem i_vc_accept {k : Nat} {u : SX} {v : SY} (I : i_Rel k u v) (hk : k + 3 ≤ 1536) : wpX_accept (fun r u' => wpY_accept (fun r' v' => r' = r ∧ i_Rel (k + 3) u' v') v) u := by
  have J := i_up I
  obtain ⟨s, t, A, B, C, D, hs, ht, hA, hB, rfl, rfl⟩ := I
  refine pk_le t (32 - s) (fun z => ?_) (fun z => ?_) rfl (pk_sub (a := 32) hs)
  · obtain ⟨A', g1, hX, hY⟩ := ca_a (B := B) (C := C) (D := D) (s := s) (t := t) (by omega) ht hB t 0 A (by omega) hA
    refine ⟨t + 1, hX _ (pk_le (s + t) 32 (fun _ => ⟨t + 1, hY _ ⟨rfl, ?_⟩⟩) (fun w => by omega) (nI_add s t))⟩
    exact ⟨s + t, 0, A', B, C, D, by omega, by omega, g1, fun j hj => absurd hj (Nat.not_lt_zero j), rfl, rfl⟩
  · exact pk_le (s + t) 32 (fun w => by omega) (fun _ => ⟨rfl, J⟩) (nI_add s t)
