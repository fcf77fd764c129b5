/-! longest, longestAt, occurrences -/
noncomputable def ca_cn (P : Nat → Prop) : Nat → Nat
  | 0 => 0
  | n + 1 => @ite Nat (P n) (Classical.propDecidable _) (ca_cn P n + 1) (ca_cn P n)
theorem ca_cn_t {P : Nat → Prop} {n : Nat} (h : P n) : ca_cn P (n + 1) = ca_cn P n + 1 := by
  rw [ca_cn]; exact if_pos h
theorem ca_cn_f {P : Nat → Prop} {n : Nat} (h : ¬ P n) : ca_cn P (n + 1) = ca_cn P n := by
  rw [ca_cn]; exact if_neg h
theorem ca_cn_le (P : Nat → Prop) : ∀ n, ca_cn P n ≤ n := by
  intro n
  induction n with
  | zero => exact Nat.le_refl _
  | succ n ih =>
    by_cases h : P n
    · rw [ca_cn_t h]; omega
    · rw [ca_cn_f h]; omega
/-- the greatest length of all places, and the least place that has it -/
def ca_MX (A B : Nat → Int32) (s t a m : Nat) : Prop :=
  (∀ i, i < t → ca_lf A B s t i ≤ m) ∧ ((a < t ∧ ca_lf A B s t a = m ∧ ∀ i, i < a → ca_lf A B s t i < m) ∨ (t = 0 ∧ a = 0 ∧ m = 0))
section
variable {A B C : Nat → Int32} {s t i j p : Nat} {post : Int32 → Prop}
theorem ca_MX_u {a m a' m' : Nat} (h : ca_MX A B s t a m) (h' : ca_MX A B s t a' m') : a' = a ∧ m' = m := by
  obtain ⟨h1, h2⟩ := h
  obtain ⟨h1', h2'⟩ := h'
  rcases h2 with ⟨h2, h3, h4⟩ | ⟨e0, e1, e2⟩
  · rcases h2' with ⟨h2', h3', h4'⟩ | ⟨e0, e1, e2⟩
    · have i1 := h1 a' h2'
      have i2 := h1' a h2
      have em : m' = m := by omega
      refine ⟨?_, em⟩
      rcases Nat.lt_trichotomy a' a with z | z | z
      · have := h4 a' z; omega
      · exact z
      · have := h4' a z; omega
    · omega
  · rcases h2' with ⟨h2', _, _⟩ | ⟨e0', e1', e2'⟩
    · omega
    · omega
theorem ca_xla_lp (hs : s ≤ 32) (ht : t ≤ 24) (h : ∀ a m, ca_MX A B s t a m → post (nI a)) :
    ∀ d i a m, i ≤ t → t - i < d → a ≤ t → m ≤ t → (∀ i', i' < i → ca_lf A B s t i' ≤ m) → ((a < i ∧ ca_lf A B s t a = m ∧ ∀ i', i' < a → ca_lf A B s t i' < m) ∨ (i = 0 ∧ a = 0 ∧ m = 0)) →
    wX_longestAt_6 post (nI s) (nI t) A B C d (nI a) (nI m) (nI i) := by
  intro d
  induction d with
  | zero => intro i a m _ h; omega
  | succ d ih =>
    intro i a m hi hd ha hm h1 h2
    refine pk_le t i (fun e => h a m ?_) (fun e => ca_xlf hs ht hi ?_)
    · cases (show i = t by omega)
      exact ⟨h1, h2⟩
    · have hl := ca_lf_le (A := A) (B := B) (s := s) (t := t) (i := i) (by omega)
      refine pk_le (ca_lf A B s t i) m (fun e2 => nm_r (nI_1 i) (ih (i + 1) a m (by omega) (by omega) ha hm (fun i' hi' => ?_) (Or.inl ?_))) (fun e2 => nm_r (nI_1 i) (ih (i + 1) i (ca_lf A B s t i) (by omega) (by omega) (by omega) (by omega) (fun i' hi' => ?_) (Or.inl ⟨by omega, rfl, fun i' hi' => ?_⟩)))
      · by_cases e3 : i' = i
        · rw [e3]; exact e2
        · exact h1 i' (by omega)
      · rcases h2 with ⟨z1, z2, z3⟩ | ⟨z1, z2, z3⟩
        · exact ⟨by omega, z2, z3⟩
        · subst z1; subst z2; subst z3
          exact ⟨by omega, by omega, fun i' hi' => by omega⟩
      · by_cases e3 : i' = i
        · rw [e3]; exact Nat.le_refl _
        · have := h1 i' (by omega)
          omega
      · have := h1 i' hi'
        omega
theorem ca_xla (hs : s ≤ 32) (ht : t ≤ 24) (h : ∀ a m, ca_MX A B s t a m → post (nI a)) : wpX_longestAt post (nI s, nI t, A, B, C) :=
  ⟨t + 1, ca_xla_lp hs ht h (t + 1) 0 0 0 (by omega) (by omega) (by omega) (by omega) (fun i hi => absurd hi (Nat.not_lt_zero i)) (Or.inr ⟨rfl, rfl, rfl⟩)⟩
theorem ca_ylo_lp (hs : s ≤ 32) (ht : t ≤ 24) {a m : Nat} (hx : ca_MX A B s t a m) (h : post (nI m)) :
    ∀ d i w, i ≤ t → t - i < d → w ≤ t → (∀ i', i' < i → ca_lf A B s t i' ≤ w) → (w = 0 ∨ ∃ i', i' < i ∧ ca_lf A B s t i' = w) →
    wY_longest_4 post (nI s) (nI t) A B C d (nI w) (nI i) := by
  intro d
  induction d with
  | zero => intro i w _ h; omega
  | succ d ih =>
    intro i w hi hd hw h1 h2
    refine pk_le t i (fun e => ?_) (fun e => ca_ylf hs ht hi ?_)
    · have e2 : w = m := by
        obtain ⟨hx1, hx2⟩ := hx
        have b1 : w ≤ m := by
          rcases h2 with z | ⟨i', z1, z2⟩
          · omega
          · have := hx1 i' (by omega); omega
        rcases hx2 with ⟨z1, z2, z3⟩ | ⟨_, _, z3⟩
        · have := h1 a (by omega); omega
        · omega
      rw [e2]; exact h
    · have hl := ca_lf_le (A := A) (B := B) (s := s) (t := t) (i := i) (by omega)
      refine pk_le (ca_lf A B s t i) w (fun e2 => nm_r (nI_1 i) (ih (i + 1) w (by omega) (by omega) hw (fun i' hi' => ?_) ?_)) (fun e2 => nm_r (nI_1 i) (ih (i + 1) (ca_lf A B s t i) (by omega) (by omega) (by omega) (fun i' hi' => ?_) (Or.inr ⟨i, by omega, rfl⟩)))
      · by_cases e3 : i' = i
        · rw [e3]; exact e2
        · exact h1 i' (by omega)
      · rcases h2 with z | ⟨i', z1, z2⟩
        · exact Or.inl z
        · exact Or.inr ⟨i', by omega, z2⟩
      · by_cases e3 : i' = i
        · rw [e3]; exact Nat.le_refl _
        · have := h1 i' (by omega)
          omega
theorem ca_ylo (hs : s ≤ 32) (ht : t ≤ 24) {a m : Nat} (hx : ca_MX A B s t a m) (h : post (nI m)) : wpY_longest post (nI s, nI t, A, B, C) :=
  ⟨t + 1, ca_ylo_lp hs ht hx h (t + 1) 0 0 (by omega) (by omega) (by omega) (fun i hi => absurd hi (Nat.not_lt_zero i)) (Or.inl rfl)⟩
theorem ca_MX_b {a m : Nat} (hx : ca_MX A B s t a m) : a ≤ t ∧ m ≤ t ∧ ca_lf A B s t a = m := by
  rcases hx.2 with ⟨z1, z2, z3⟩ | ⟨z1, z2, z3⟩
  · have hl := ca_lf_le (A := A) (B := B) (s := s) (t := t) (i := a) (by omega)
    exact ⟨by omega, by omega, z2⟩
  · have hl := ca_lf_le (A := A) (B := B) (s := s) (t := t) (i := a) (by omega)
    exact ⟨by omega, by omega, by omega⟩
theorem ca_yla_lp (hs : s ≤ 32) (ht : t ≤ 24) {a m : Nat} (hx : ca_MX A B s t a m) (h : post (nI a)) :
    ∀ d i, i ≤ t → t - i < d → (∀ i', i' < i → ca_lf A B s t i' ≠ m) → wY_longestAt_7 post (nI m) (nI s) (nI t) A B C d (nI i) := by
  intro d
  induction d with
  | zero => intro i _ h; omega
  | succ d ih =>
    intro i hi hd h1
    have hb := ca_MX_b hx
    refine pk_le t i (fun e => ?_) (fun e => ca_ylf hs ht hi ?_)
    · rcases hx.2 with ⟨z1, z2, z3⟩ | ⟨z1, z2, z3⟩
      · exact absurd z2 (h1 a (by omega))
      · rw [z2] at h; exact h
    · have hl := ca_lf_le (A := A) (B := B) (s := s) (t := t) (i := i) (by omega)
      refine pk_eq (ca_lf A B s t i) m (fun e2 => ?_) (fun e2 => nm_r (nI_1 i) (ih (i + 1) (by omega) (by omega) (fun i' hi' => ?_)))
      · have e3 : i = a := by
          rcases hx.2 with ⟨z1, z2, z3⟩ | ⟨z1, z2, z3⟩
          · rcases Nat.lt_trichotomy i a with z | z | z
            · have := z3 i z; omega
            · exact z
            · exact absurd z2 (h1 a z)
          · omega
        rw [e3]; exact h
      · by_cases e3 : i' = i
        · rw [e3]; exact e2
        · exact h1 i' (by omega)
theorem ca_yla (hs : s ≤ 32) (ht : t ≤ 24) {a m : Nat} (hx : ca_MX A B s t a m) (h : post (nI a)) : wpY_longestAt post (nI s, nI t, A, B, C) := by
  unfold wpY_longestAt
  dsimp only
  exact ca_ylo hs ht hx ⟨t + 1, ca_yla_lp hs ht hx h (t + 1) 0 (by omega) (by omega) (fun i hi => absurd hi (Nat.not_lt_zero i))⟩
theorem ca_xoc_lp (hs : s ≤ 32) (ht : t ≤ 24) (hi : i ≤ j) (hj : j ≤ t) (h : post (nI (ca_cn (fun k => ca_O A B s t k i (j - i)) (s + 1)))) :
    ∀ d k, k ≤ s + 1 → s + 1 - k < d → wX_occurrences_24 post (nI i) (nI j) (nI s) (nI t) A B C d (nI (ca_cn (fun k => ca_O A B s t k i (j - i)) k)) (nI k) := by
  intro d
  induction d with
  | zero => intro k _ h; omega
  | succ d ih =>
    intro k hk hd
    refine pk_lt s k (fun e => ?_) (fun e => ca_xsh hs ht (by omega) (by omega) (fun m hm => ?_))
    · cases (show k = s + 1 by omega)
      exact h
    · have hr := ih (k + 1) (by omega) (by omega)
      have hm1 := ((hm m).mp (Nat.le_refl _)).1
      refine pk_lt m (j - i) (fun e2 => ?_) (fun e2 => ?_) rfl (pk_sub hi)
      · rw [ca_cn_f (P := fun k => ca_O A B s t k i (j - i)) (fun z => by have := (hm _).mpr z; omega)] at hr
        exact nm_r (nI_1 k) hr
      · rw [ca_cn_t (P := fun k => ca_O A B s t k i (j - i)) ((hm _).mp e2)] at hr
        exact nm_r (nI_1 _) (nm_r (nI_1 k) hr)
theorem ca_yoc_lp (hs : s ≤ 32) (ht : t ≤ 24) (hi : i ≤ j) (hj : j ≤ t) (h : post (nI (ca_cn (fun k => ca_O A B s t k i (j - i)) (s + 1)))) :
    ∀ d k, k ≤ s + 1 → s + 1 - k < d → wY_occurrences_24 post (nI i) (nI j) (nI s) (nI t) A B C d (nI (ca_cn (fun k => ca_O A B s t k i (j - i)) k)) (nI k) := by
  intro d
  induction d with
  | zero => intro k _ h; omega
  | succ d ih =>
    intro k hk hd
    refine pk_lt s k (fun e => ?_) (fun e => ?_)
    · cases (show k = s + 1 by omega)
      exact h
    · have hr := ih (k + 1) (by omega) (by omega)
      rw [pk_sub hi]
      refine ca_yst hs ht (by omega) (by omega) (fun o => br_f ca_10 ?_) (fun o => br_t rfl ?_)
      · rw [ca_cn_t (P := fun k => ca_O A B s t k i (j - i)) o] at hr
        exact nm_r (nI_1 _) (nm_r (nI_1 k) hr)
      · rw [ca_cn_f (P := fun k => ca_O A B s t k i (j - i)) o] at hr
        exact nm_r (nI_1 k) hr
end
theorem i_vc_longest {k : Nat} {u : SX} {v : SY} (I : i_Rel k u v) (hk : k + 3 ≤ 1536) : wpX_longest (fun r => wpY_longest (fun r' => r' = r ∧ i_Rel (k + 3) u v) v) u := by
  have J := i_up I
  obtain ⟨s, t, A, B, C, D, hs, ht, hA, hB, rfl, rfl⟩ := I
  unfold wpX_longest
  dsimp only
  refine ca_xla hs ht (fun a m hx => ?_)
  have hb := ca_MX_b hx
  refine ca_xlf hs ht hb.1 (ca_ylo hs ht hx ⟨?_, J⟩)
  rw [hb.2.2]
theorem i_vc_longestAt {k : Nat} {u : SX} {v : SY} (I : i_Rel k u v) (hk : k + 3 ≤ 1536) : wpX_longestAt (fun r => wpY_longestAt (fun r' => r' = r ∧ i_Rel (k + 3) u v) v) u := by
  have J := i_up I
  obtain ⟨s, t, A, B, C, D, hs, ht, hA, hB, rfl, rfl⟩ := I
  exact ca_xla hs ht (fun a m hx => ca_yla hs ht hx ⟨rfl, J⟩)
theorem ca_neg_le {x : Int32} {n : Nat} (h : ¬ x < 0) (hn : n < 2 ^ 31) (hx : x ≤ nI n) : ∃ j, j ≤ n ∧ x = nI j := by
  obtain ⟨j, hj, rfl⟩ := nI_of h
  exact ⟨j, (nI_leI hj hn).mp hx, rfl⟩
theorem i_vc_occurrences {k : Nat} {u : SX} {v : SY} (I : i_Rel k u v) (hk : k + 3 ≤ 1536) (v1 : Int32) (v2 : Int32) : wpX_occurrences (fun r => wpY_occurrences (fun r' => r' = r ∧ i_Rel (k + 3) u v) v v1 v2) u v1 v2 := by
  have J := i_up I
  obtain ⟨s, t, A, B, C, D, hs, ht, hA, hB, rfl, rfl⟩ := I
  by_cases h1 : v1 < 0
  · exact br_t h1 (br_t h1 ⟨rfl, J⟩)
  · by_cases h2 : v2 < v1
    · exact br_f h1 (br_t h2 (br_f h1 (br_t h2 ⟨rfl, J⟩)))
    · by_cases h3 : v2 ≤ nI t
      · have h1' := Int32.not_lt.mp h1
        have h2' := Int32.not_lt.mp h2
        obtain ⟨j, hj, rfl⟩ := ca_neg_le (x := v2) (n := t) (Int32.not_lt.mpr (Int32.le_trans h1' h2')) (by omega) h3
        obtain ⟨i, hi, rfl⟩ := ca_neg_le (x := v1) (n := j) h1 (by omega) h2'
        refine br_f h1 (br_f h2 (br_t h3 ⟨s + 2, ca_xoc_lp hs ht hi hj ?_ (s + 2) 0 (by omega) (by omega)⟩))
        exact br_f h1 (br_f h2 (br_t h3 ⟨s + 2, ca_yoc_lp hs ht hi hj ⟨rfl, J⟩ (s + 2) 0 (by omega) (by omega)⟩))
      · exact br_f h1 (br_f h2 (br_f h3 (br_f h1 (br_f h2 (br_f h3 ⟨rfl, J⟩)))))
