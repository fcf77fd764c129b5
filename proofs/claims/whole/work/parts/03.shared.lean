/-! sharedLength, longestFrom, leastPlace of X; standsAt, placeOf, longestFrom of Y -/
section
variable {A B C : Nat → Int32} {s t k i n : Nat} {post : Int32 → Prop}
theorem ca_xsh_lp (hs : s ≤ 32) (ht : t ≤ 24) (h : ∀ m, (∀ n, n ≤ m ↔ ca_O A B s t k i n) → post (nI m)) :
    ∀ d n, ca_O A B s t k i n → s - (k + n) < d → wX_sharedLength_2 post (nI k) (nI i) (nI s) (nI t) A B C d (nI n) := by
  intro d
  induction d with
  | zero => intro n _ h; omega
  | succ d ih =>
    intro n ho hd
    have h1 := ho.1
    have h2 := ho.2.1
    refine pk_le s (k + n) (fun e => h n (fun n' => ⟨fun z => ca_O_le ho z, fun z => ?_⟩)) (fun e => pk_le t (i + n) (fun e2 => h n (fun n' => ⟨fun z => ca_O_le ho z, fun z => ?_⟩)) (fun e2 => ⟨pk_in (k + n) 32 (by omega) (nI_add k n), pk_in (i + n) 24 (by omega) (nI_add i n), ?_⟩) rfl (nI_add i n)) rfl (nI_add k n)
    · have := z.1; omega
    · have := z.2.1; omega
    · have ea : A (nI k + nI n).toNatClampNeg = A (k + n) := congrArg A (pk_cl (k + n) (nI_add k n))
      have eb : B (nI i + nI n).toNatClampNeg = B (i + n) := congrArg B (pk_cl (i + n) (nI_add i n))
      by_cases e3 : A (k + n) = B (i + n)
      · refine br_t (by rw [ea, eb]; exact e3) (nm_r (nI_1 n) (ih (n + 1) ⟨by omega, by omega, fun x hx => ?_⟩ (by omega)))
        by_cases e4 : x = n
        · rw [e4]; exact e3
        · exact ho.2.2 x (by omega)
      · refine br_f (by rw [ea, eb]; exact e3) (h n (fun n' => ⟨fun z => ca_O_le ho z, fun z => ?_⟩))
        by_cases e4 : n' ≤ n
        · exact e4
        · exact absurd (z.2.2 n (by omega)) e3
theorem ca_xsh (hs : s ≤ 32) (ht : t ≤ 24) (hk : k ≤ s) (hi : i ≤ t) (h : ∀ m, (∀ n, n ≤ m ↔ ca_O A B s t k i n) → post (nI m)) :
    wpX_sharedLength post (nI s, nI t, A, B, C) (nI k) (nI i) :=
  ⟨s + 1, ca_xsh_lp hs ht h (s + 1) 0 ⟨by omega, by omega, fun x hx => absurd hx (Nat.not_lt_zero x)⟩ (by omega)⟩
theorem ca_xlf_lp (hs : s ≤ 32) (ht : t ≤ 24) (hi : i ≤ t) (h : post (nI (ca_lf A B s t i))) :
    ∀ d k m, k ≤ s → s - k < d → m ≤ t → (∀ n, 1 ≤ n → (n ≤ m ↔ ∃ k', k' < k ∧ ca_O A B s t k' i n)) → wX_longestFrom_4 post (nI i) (nI s) (nI t) A B C d (nI m) (nI k) := by
  intro d
  induction d with
  | zero => intro k m _ h; omega
  | succ d ih =>
    intro k m hk hd hmt hm
    refine pk_le s k (fun e => ?_) (fun e => ca_xsh hs ht hk hi (fun m' hm' => ?_))
    · have e2 : m = ca_lf A B s t i := ca_lf_eq (fun n h1 => (hm n h1).trans ⟨fun ⟨k', _, o⟩ => ⟨k', o⟩, fun ⟨k', o⟩ => ⟨k', by have := o.1; omega, o⟩⟩)
      rw [e2]; exact h
    · have o := (hm' m').mp (Nat.le_refl _)
      have o2 := o.2.1
      refine pk_le m' m (fun e2 => nm_r (nI_1 k) (ih (k + 1) m (by omega) (by omega) hmt (fun n h1 => ?_))) (fun e2 => nm_r (nI_1 k) (ih (k + 1) m' (by omega) (by omega) (by omega) (fun n h1 => ?_)))
      · refine ⟨fun z => ?_, fun ⟨k', z1, z2⟩ => ?_⟩
        · obtain ⟨k', z1, z2⟩ := (hm n h1).mp z
          exact ⟨k', by omega, z2⟩
        · by_cases e3 : k' = k
          · rw [e3] at z2
            have := (hm' n).mpr z2
            omega
          · exact (hm n h1).mpr ⟨k', by omega, z2⟩
      · refine ⟨fun z => ⟨k, by omega, (hm' n).mp z⟩, fun ⟨k', z1, z2⟩ => ?_⟩
        by_cases e3 : k' = k
        · rw [e3] at z2
          exact (hm' n).mpr z2
        · have := (hm n h1).mpr ⟨k', by omega, z2⟩
          omega
theorem ca_xlf (hs : s ≤ 32) (ht : t ≤ 24) (hi : i ≤ t) (h : post (nI (ca_lf A B s t i))) : wpX_longestFrom post (nI s, nI t, A, B, C) (nI i) :=
  ⟨s + 1, ca_xlf_lp hs ht hi h (s + 1) 0 0 (by omega) (by omega) (by omega) (fun n h1 => ⟨fun z => by omega, fun ⟨k', z, _⟩ => by omega⟩)⟩
theorem ca_xpl_lp (hs : s ≤ 32) (ht : t ≤ 24) (h1 : 1 ≤ n) (hi : i + n ≤ t) {r : Int32} (hr : ca_PL A B s t i n r) (h : post r) :
    ∀ d k, k ≤ s → s - k < d → (∀ j, j < k → ¬ ca_O A B s t j i n) → wX_leastPlace_2 post (nI i) (nI (i + n)) (nI s) (nI t) A B C d (nI k) := by
  intro d
  induction d with
  | zero => intro k _ h; omega
  | succ d ih =>
    intro k hk hd hl
    refine pk_le s k (fun e => ?_) (fun e => ca_xsh hs ht hk (by omega) (fun m hm => pk_lt m n (fun e2 => nm_r (nI_1 k) (ih (k + 1) (by omega) (by omega) (fun j hj z => ?_))) (fun e2 => ?_) rfl ((pk_sub (by omega)).trans (by rw [Nat.add_sub_cancel_left])) (by have := ((hm m).mp (Nat.le_refl _)).1; omega)))
    · have e2 := ca_PL_n hr (fun j z => hl j (by have := z.1; omega) z)
      rw [← e2]; exact h
    · by_cases e3 : j = k
      · rw [e3] at z
        have := (hm n).mpr z
        omega
      · exact hl j (by omega) z
    · rw [← ca_PL_k hr ((hm n).mp e2) hl]; exact h
theorem ca_xpl (hs : s ≤ 32) (ht : t ≤ 24) (h1 : 1 ≤ n) (hi : i + n ≤ t) {r : Int32} (hr : ca_PL A B s t i n r) (h : post r) : wpX_leastPlace post (nI s, nI t, A, B, C) (nI i) (nI (i + n)) :=
  ⟨s + 1, ca_xpl_lp hs ht h1 hi hr h (s + 1) 0 (by omega) (by omega) (fun j hj => absurd hj (Nat.not_lt_zero j))⟩
theorem ca_yst_lp (hs : s ≤ 32) (ht : t ≤ 24) (hk : k + n ≤ s) (hi : i + n ≤ t) (h1 : ca_O A B s t k i n → post 1) (h0 : ¬ ca_O A B s t k i n → post 0) :
    ∀ d x, x ≤ n → n - x < d → (∀ y, y < x → A (k + y) = B (i + y)) → wY_standsAt_15 post (nI k) (nI i) (nI n) (nI s) (nI t) A B C d (nI x) := by
  intro d
  induction d with
  | zero => intro x _ h; omega
  | succ d ih =>
    intro x hx hd hl
    refine pk_le n x (fun e => h1 ⟨hk, hi, fun y hy => hl y (by omega)⟩) (fun e => ⟨pk_in (k + x) 32 (by omega) (nI_add k x), pk_in (i + x) 24 (by omega) (nI_add i x), ?_⟩)
    have ea : A (nI k + nI x).toNatClampNeg = A (k + x) := congrArg A (pk_cl (k + x) (nI_add k x))
    have eb : B (nI i + nI x).toNatClampNeg = B (i + x) := congrArg B (pk_cl (i + x) (nI_add i x))
    by_cases e3 : A (k + x) = B (i + x)
    · refine br_t (by rw [ea, eb]; exact e3) (nm_r (nI_1 x) (ih (x + 1) (by omega) (by omega) (fun y hy => ?_)))
      by_cases e4 : y = x
      · rw [e4]; exact e3
      · exact hl y (by omega)
    · exact br_f (by rw [ea, eb]; exact e3) (h0 (fun z => e3 (z.2.2 x e)))
theorem ca_yst (hs : s ≤ 32) (ht : t ≤ 24) (hk : k ≤ s) (hi : i + n ≤ t) (h1 : ca_O A B s t k i n → post 1) (h0 : ¬ ca_O A B s t k i n → post 0) :
    wpY_standsAt post (nI s, nI t, A, B, C) (nI k) (nI i) (nI n) := by
  refine pk_le (k + n) s (fun e => ⟨n + 1, ca_yst_lp hs ht e hi h1 h0 (n + 1) 0 (by omega) (by omega) (fun y hy => absurd hy (Nat.not_lt_zero y))⟩) (fun e => h0 (fun z => ?_)) (nI_add k n)
  have := z.1; omega
theorem ca_10 : ¬ (1 : Int32) = 0 := by decide
theorem ca_ypl_lp (hs : s ≤ 32) (ht : t ≤ 24) (hi : i + n ≤ t) {r : Int32} (hr : ca_PL A B s t i n r) (h : post r) :
    ∀ d k, k ≤ s + 1 → s + 1 - k < d → (∀ j, j < k → ¬ ca_O A B s t j i n) → wY_placeOf_2 post (nI i) (nI n) (nI s) (nI t) A B C d (nI k) := by
  intro d
  induction d with
  | zero => intro k _ h; omega
  | succ d ih =>
    intro k hk hd hl
    refine pk_lt s (k + n) (fun e => ?_) (fun e => ca_yst hs ht (by omega) hi (fun o => br_f ca_10 ?_) (fun o => br_t rfl (nm_r (nI_1 k) (ih (k + 1) (by omega) (by omega) (fun j hj z => ?_))))) rfl (nI_add k n)
    · rw [← ca_PL_n hr (fun j z => hl j (by have := z.1; omega) z)]; exact h
    · rw [← ca_PL_k hr o hl]; exact h
    · by_cases e3 : j = k
      · rw [e3] at z; exact o z
      · exact hl j (by omega) z
theorem ca_ypl (hs : s ≤ 32) (ht : t ≤ 24) (hi : i + n ≤ t) {r : Int32} (hr : ca_PL A B s t i n r) (h : post r) : wpY_placeOf post (nI s, nI t, A, B, C) (nI i) (nI n) :=
  ⟨s + 2, ca_ypl_lp hs ht hi hr h (s + 2) 0 (by omega) (by omega) (fun j hj => absurd hj (Nat.not_lt_zero j))⟩
theorem ca_nI4 {a : Nat} (h : a < 2 ^ 31) : ¬ nI a = -4 := fun e => nI_pos h (by rw [e]; decide)
theorem ca_PL_4 {r : Int32} (hs : s ≤ 32) (h : ca_PL A B s t i n r) : r = -4 ↔ ∀ k, ¬ ca_O A B s t k i n := by
  refine ⟨fun e => ?_, fun e => ca_PL_n h e⟩
  rcases h with ⟨k, e1, o, _⟩ | ⟨_, h⟩
  · have := o.1
    exact absurd (e1.symm.trans e) (ca_nI4 (by omega))
  · exact h
theorem ca_ylf_lp (hs : s ≤ 32) (ht : t ≤ 24) (hi : i ≤ t) (h : post (nI (ca_lf A B s t i))) :
    ∀ d n m, n ≤ t + 1 → t + 1 - n < d → (∀ n', 1 ≤ n' → (n' ≤ m ↔ n' < n ∧ ∃ k, ca_O A B s t k i n')) → wY_longestFrom_4 post (nI i) (nI s) (nI t) A B C d (nI m) (nI n) := by
  intro d
  induction d with
  | zero => intro n m _ h; omega
  | succ d ih =>
    intro n m hn hd hm
    obtain ⟨r, hr⟩ := ca_PL_ex (A := A) (B := B) (s := s) (t := t) (i := i) (n := n)
    refine pk_lt (t - i) n (fun e => ?_) (fun e => ca_ypl hs ht (by omega) hr ?_) (pk_sub hi)
    · have e2 : m = ca_lf A B s t i := ca_lf_eq (fun n' h1 => (hm n' h1).trans ⟨fun z => z.2, fun ⟨k, z⟩ => ⟨by have := z.2.1; omega, k, z⟩⟩)
      rw [e2]; exact h
    · by_cases e4 : r = -4
      · have hno := (ca_PL_4 hs hr).mp e4
        refine br_t e4 (nm_r (nI_1 n) (ih (n + 1) m (by omega) (by omega) (fun n' h1 => (hm n' h1).trans ⟨fun z => ⟨by omega, z.2⟩, fun ⟨z, k, o⟩ => ⟨?_, k, o⟩⟩)))
        by_cases e5 : n' = n
        · rw [e5] at o; exact absurd o (hno k)
        · omega
      · have hyes : ∃ k, ca_O A B s t k i n := by
          rcases hr with ⟨k, _, o, _⟩ | ⟨e5, _⟩
          · exact ⟨k, o⟩
          · exact absurd e5 e4
        refine br_f e4 (nm_r (nI_1 n) (ih (n + 1) n (by omega) (by omega) (fun n' h1 => ⟨fun z => ⟨by omega, ?_⟩, fun z => by omega⟩)))
        exact hyes.elim fun k o => ⟨k, ca_O_le o z⟩
theorem ca_ylf (hs : s ≤ 32) (ht : t ≤ 24) (hi : i ≤ t) (h : post (nI (ca_lf A B s t i))) : wpY_longestFrom post (nI s, nI t, A, B, C) (nI i) :=
  ⟨t + 2, ca_ylf_lp hs ht hi h (t + 2) 1 0 (by omega) (by omega) (fun n' h1 => ⟨fun z => by omega, fun z => by omega⟩)⟩
end
