section
theorem pk_us {f : Nat → Int32} {k : Nat} {x : Int32} : upd f k x k = x := if_pos rfl
theorem pk_un {f : Nat → Int32} {k j : Nat} {x : Int32} (h : j ≠ k) : upd f k x j = f j := if_neg h
theorem pk_sub {a b : Nat} (h : b ≤ a) : nI a - nI b = nI (a - b) := by
  obtain ⟨c, rfl⟩ : ∃ c, a = c + b := ⟨a - b, by omega⟩
  rw [← nI_add, Int32.add_sub_cancel, Nat.add_sub_cancel]
theorem pk_mul (a b : Nat) : nI a * nI b = nI (a * b) := (Int32.ofNat_mul a b).symm
theorem pk_sub_toInt {a b : Nat} (ha : a < 2 ^ 30) (hb : b < 2 ^ 30) : (nI a - nI b).toInt = (a : Int) - b := by
  rw [Int32.toInt_sub, nI_toInt (by omega), nI_toInt (by omega)]
  exact Int.bmod_eq_of_le (by omega) (by omega)
theorem pk_sneg {a b : Nat} (hb : b < 2 ^ 30) (h : a < b) : nI a - nI b < 0 := by
  rw [Int32.lt_iff_toInt_lt, pk_sub_toInt (by omega) hb, show (0 : Int32).toInt = 0 from by decide]
  omega
theorem pk_le {x y : Int32} {A B : Prop} (a b : Nat) (f : a ≤ b → A) (g : b < a → B) (hx : x = nI a := by rfl) (hy : y = nI b := by rfl) (ha : a < 2 ^ 31 := by omega) (hb : b < 2 ^ 31 := by omega) : (x ≤ y → A) ∧ (¬ x ≤ y → B) := by
  subst hx hy
  rw [nI_leI ha hb]
  exact ⟨f, fun z => g (by omega)⟩
theorem pk_lt {x y : Int32} {A B : Prop} (a b : Nat) (f : a < b → A) (g : b ≤ a → B) (hx : x = nI a := by rfl) (hy : y = nI b := by rfl) (ha : a < 2 ^ 31 := by omega) (hb : b < 2 ^ 31 := by omega) : (x < y → A) ∧ (¬ x < y → B) := by
  subst hx hy
  rw [nI_ltI ha hb]
  exact ⟨f, fun z => g (by omega)⟩
theorem pk_eq {x y : Int32} {A B : Prop} (a b : Nat) (f : a = b → A) (g : a ≠ b → B) (hx : x = nI a := by rfl) (hy : y = nI b := by rfl) (ha : a < 2 ^ 31 := by omega) (hb : b < 2 ^ 31 := by omega) : (x = y → A) ∧ (¬ x = y → B) := by
  subst hx hy
  rw [nI_eq ha hb]
  exact ⟨f, g⟩
theorem pk_in {x : Int32} (n N : Nat) (h : n < N) (hx : x = nI n := by rfl) (hN : N < 2 ^ 31 := by omega) : vp_in x N := by
  subst hx
  exact vp_in_nI h hN
theorem pk_cl {x : Int32} (n : Nat) (hx : x = nI n := by rfl) (h : n < 2 ^ 31 := by omega) : x.toNatClampNeg = n := by
  subst hx
  exact nI_clamp h
theorem pk_least (P : Nat → Prop) (h : ∃ k, P k) : ∃ k, P k ∧ ∀ j, j < k → ¬ P j := by
  obtain ⟨k, hk⟩ := h
  induction k using Nat.strongRecOn with
  | ind k ih =>
    by_cases e : ∃ j, j < k ∧ P j
    · obtain ⟨j, hj, pj⟩ := e
      exact ih j hj pj
    · exact ⟨k, hk, fun j hj pj => e ⟨j, hj, pj⟩⟩
end
section
/-! the pure pictures: where a stretch occurs, the greatest length, what was seen before -/
def ca_O (A B : Nat → Int32) (s t k i n : Nat) : Prop := k + n ≤ s ∧ i + n ≤ t ∧ ∀ x, x < n → A (k + x) = B (i + x)
def ca_S (A : Nat → Int32) (s k n : Nat) : Prop := k + n ≤ s ∧ ∃ e, e < k ∧ ∀ x, x < n → A (e + x) = A (k + x)
noncomputable def ca_gr (P : Nat → Prop) : Nat → Nat
  | 0 => 0
  | n + 1 => @ite Nat (P (n + 1)) (Classical.propDecidable _) (n + 1) (ca_gr P n)
theorem ca_gr_t {P : Nat → Prop} {n : Nat} (h : P (n + 1)) : ca_gr P (n + 1) = n + 1 := by
  rw [ca_gr]; exact if_pos h
theorem ca_gr_f {P : Nat → Prop} {n : Nat} (h : ¬ P (n + 1)) : ca_gr P (n + 1) = ca_gr P n := by
  rw [ca_gr]; exact if_neg h
theorem ca_gr_le (P : Nat → Prop) : ∀ N, ca_gr P N ≤ N := by
  intro N
  induction N with
  | zero => exact Nat.le_refl _
  | succ n ih =>
    by_cases h : P (n + 1)
    · rw [ca_gr_t h]; exact Nat.le_refl _
    · rw [ca_gr_f h]; omega
theorem ca_down {P : Nat → Prop} (hd : ∀ n, P (n + 2) → P (n + 1)) : ∀ d n, 1 ≤ n → P (n + d) → P n := by
  intro d
  induction d with
  | zero => intro n _ h; exact h
  | succ d ih =>
    intro n h1 h
    refine ih n h1 ?_
    have h2 := hd (n - 1 + d) (by rw [show n - 1 + d + 2 = n + (d + 1) by omega]; exact h)
    rw [show n - 1 + d + 1 = n + d by omega] at h2
    exact h2
theorem ca_gr_iff {P : Nat → Prop} (hd : ∀ n, P (n + 2) → P (n + 1)) : ∀ N n, 1 ≤ n → n ≤ N → (n ≤ ca_gr P N ↔ P n) := by
  intro N
  induction N with
  | zero => intro n h1 h2; omega
  | succ N ih =>
    intro n h1 h2
    by_cases h : P (N + 1)
    · rw [ca_gr_t h]
      refine ⟨fun _ => ca_down hd (N + 1 - n) n h1 ?_, fun _ => h2⟩
      rw [show n + (N + 1 - n) = N + 1 by omega]
      exact h
    · rw [ca_gr_f h]
      by_cases e : n = N + 1
      · subst e
        have := ca_gr_le P N
        exact ⟨fun z => by omega, fun z => absurd z h⟩
      · exact ih n h1 (by omega)
theorem ca_gr_eq {P : Nat → Prop} (hd : ∀ n, P (n + 2) → P (n + 1)) {N m : Nat} (hN : ∀ n, P n → n ≤ N) (hm : ∀ n, 1 ≤ n → (n ≤ m ↔ P n)) : m = ca_gr P N := by
  have h1 : m ≤ ca_gr P N := by
    by_cases e : m = 0
    · omega
    · have hp : P m := (hm m (by omega)).mp (Nat.le_refl _)
      exact (ca_gr_iff hd N m (by omega) (hN m hp)).mpr hp
  have h2 : ca_gr P N ≤ m := by
    by_cases e : ca_gr P N = 0
    · omega
    · exact (hm _ (by omega)).mpr ((ca_gr_iff hd N _ (by omega) (ca_gr_le P N)).mp (Nat.le_refl _))
  omega
theorem ca_gr_iff' {P : Nat → Prop} (hd : ∀ n, P (n + 2) → P (n + 1)) {N : Nat} (hN : ∀ n, P n → n ≤ N) {n : Nat} (h1 : 1 ≤ n) : n ≤ ca_gr P N ↔ P n := by
  by_cases h : n ≤ N
  · exact ca_gr_iff hd N n h1 h
  · have := ca_gr_le P N
    exact ⟨fun z => by omega, fun z => absurd (hN n z) h⟩
section
variable {A B : Nat → Int32} {s t k i n m : Nat}
theorem ca_O_le (h : ca_O A B s t k i n) {n' : Nat} (hn : n' ≤ n) : ca_O A B s t k i n' :=
  ⟨by have := h.1; omega, by have := h.2.1; omega, fun x hx => h.2.2 x (by omega)⟩
theorem ca_S_le (h : ca_S A s k n) {n' : Nat} (hn : n' ≤ n) : ca_S A s k n' := by
  obtain ⟨h1, e, h2, h3⟩ := h
  exact ⟨by omega, e, h2, fun x hx => h3 x (by omega)⟩
noncomputable def ca_lf (A B : Nat → Int32) (s t i : Nat) : Nat := ca_gr (fun n => ∃ k, ca_O A B s t k i n) t
noncomputable def ca_sb (A : Nat → Int32) (s k : Nat) : Nat := ca_gr (ca_S A s k) s
theorem ca_lf_iff (h1 : 1 ≤ n) : n ≤ ca_lf A B s t i ↔ ∃ k, ca_O A B s t k i n :=
  ca_gr_iff' (P := fun n => ∃ k, ca_O A B s t k i n) (fun _ h => h.elim fun k h => ⟨k, ca_O_le h (by omega)⟩) (fun n h => h.elim fun k h => by have := h.2.1; omega) h1
theorem ca_lf_eq (hm : ∀ n, 1 ≤ n → (n ≤ m ↔ ∃ k, ca_O A B s t k i n)) : m = ca_lf A B s t i :=
  ca_gr_eq (P := fun n => ∃ k, ca_O A B s t k i n) (fun _ h => h.elim fun k h => ⟨k, ca_O_le h (by omega)⟩) (fun n h => h.elim fun k h => by have := h.2.1; omega) hm
theorem ca_lf_le (hi : i ≤ t) : i + ca_lf A B s t i ≤ t := by
  by_cases e : ca_lf A B s t i = 0
  · omega
  · obtain ⟨k, h⟩ := (ca_lf_iff (A := A) (B := B) (s := s) (t := t) (i := i) (n := ca_lf A B s t i) (by omega)).mp (Nat.le_refl _)
    exact h.2.1
theorem ca_sb_iff (h1 : 1 ≤ n) : n ≤ ca_sb A s k ↔ ca_S A s k n :=
  ca_gr_iff' (P := ca_S A s k) (fun _ h => ca_S_le h (by omega)) (fun n h => by have := h.1; omega) h1
theorem ca_sb_eq (hm : ∀ n, 1 ≤ n → (n ≤ m ↔ ca_S A s k n)) : m = ca_sb A s k :=
  ca_gr_eq (P := ca_S A s k) (fun _ h => ca_S_le h (by omega)) (fun n h => by have := h.1; omega) hm
theorem ca_sb_le (hk : k ≤ s) : k + ca_sb A s k ≤ s := by
  by_cases e : ca_sb A s k = 0
  · omega
  · exact ((ca_sb_iff (A := A) (s := s) (k := k) (n := ca_sb A s k) (by omega)).mp (Nat.le_refl _)).1
theorem ca_sb_0 : ca_sb A s 0 = 0 := by
  by_cases e : ca_sb A s 0 = 0
  · exact e
  · obtain ⟨_, e, h, _⟩ := (ca_sb_iff (A := A) (s := s) (k := 0) (n := ca_sb A s 0) (by omega)).mp (Nat.le_refl _)
    omega
def ca_PL (A B : Nat → Int32) (s t i n : Nat) (r : Int32) : Prop :=
  (∃ k, r = nI k ∧ ca_O A B s t k i n ∧ ∀ j, j < k → ¬ ca_O A B s t j i n) ∨ (r = -4 ∧ ∀ k, ¬ ca_O A B s t k i n)
theorem ca_PL_ex : ∃ r, ca_PL A B s t i n r := by
  by_cases h : ∃ k, ca_O A B s t k i n
  · obtain ⟨k, hk, hl⟩ := pk_least _ h
    exact ⟨nI k, Or.inl ⟨k, rfl, hk, hl⟩⟩
  · exact ⟨-4, Or.inr ⟨rfl, fun k hk => h ⟨k, hk⟩⟩⟩
theorem ca_PL_k {r : Int32} (h : ca_PL A B s t i n r) (hk : ca_O A B s t k i n) (hl : ∀ j, j < k → ¬ ca_O A B s t j i n) : r = nI k := by
  rcases h with ⟨k', e, h1, h2⟩ | ⟨_, h⟩
  · have : k' = k := by
      rcases Nat.lt_trichotomy k' k with h | h | h
      · exact absurd h1 (hl k' h)
      · exact h
      · exact absurd hk (h2 k h)
    rw [e, this]
  · exact absurd hk (h k)
theorem ca_PL_n {r : Int32} (h : ca_PL A B s t i n r) (hn : ∀ k, ¬ ca_O A B s t k i n) : r = -4 := by
  rcases h with ⟨k', _, h1, _⟩ | ⟨e, _⟩
  · exact absurd h1 (hn k')
  · exact e
end
end
section
/-! sharedLength, longestFrom, leastPlace of X; standsAt, placeOf, longestFrom of Y -/
section
variable {A B C : Nat → Int32} {s t k i n : Nat} {post : Int32 → Prop}
theorem ca_xsh_lp (hs : s ≤ 32) (ht : t ≤ 24) (h : ∀ m, (∀ n, n ≤ m ↔ ca_O A B s t k i n) → post (nI m)) :
    ∀ d n, ca_O A B s t k i n → s - (k + n) < d → wX_sharedLength_2 post (nI k) (nI i) (nI s) (nI t) A B C d (nI n) := by
  intro d
  induction d with
  | zero => intro n _ h; omega
  | succ d ih =>
    intro n ho hd
    have h1 := ho.1
    have h2 := ho.2.1
    refine pk_le s (k + n) (fun e => h n (fun n' => ⟨fun z => ca_O_le ho z, fun z => ?_⟩)) (fun e => pk_le t (i + n) (fun e2 => h n (fun n' => ⟨fun z => ca_O_le ho z, fun z => ?_⟩)) (fun e2 => ⟨pk_in (k + n) 32 (by omega) (nI_add k n), pk_in (i + n) 24 (by omega) (nI_add i n), ?_⟩) rfl (nI_add i n)) rfl (nI_add k n)
    · have := z.1; omega
    · have := z.2.1; omega
    · have ea : A (nI k + nI n).toNatClampNeg = A (k + n) := congrArg A (pk_cl (k + n) (nI_add k n))
      have eb : B (nI i + nI n).toNatClampNeg = B (i + n) := congrArg B (pk_cl (i + n) (nI_add i n))
      by_cases e3 : A (k + n) = B (i + n)
      · refine br_t (by rw [ea, eb]; exact e3) (nm_r (nI_1 n) (ih (n + 1) ⟨by omega, by omega, fun x hx => ?_⟩ (by omega)))
        by_cases e4 : x = n
        · rw [e4]; exact e3
        · exact ho.2.2 x (by omega)
      · refine br_f (by rw [ea, eb]; exact e3) (h n (fun n' => ⟨fun z => ca_O_le ho z, fun z => ?_⟩))
        by_cases e4 : n' ≤ n
        · exact e4
        · exact absurd (z.2.2 n (by omega)) e3
theorem ca_xsh (hs : s ≤ 32) (ht : t ≤ 24) (hk : k ≤ s) (hi : i ≤ t) (h : ∀ m, (∀ n, n ≤ m ↔ ca_O A B s t k i n) → post (nI m)) :
    wpX_sharedLength post (nI s, nI t, A, B, C) (nI k) (nI i) :=
  ⟨s + 1, ca_xsh_lp hs ht h (s + 1) 0 ⟨by omega, by omega, fun x hx => absurd hx (Nat.not_lt_zero x)⟩ (by omega)⟩
theorem ca_xlf_lp (hs : s ≤ 32) (ht : t ≤ 24) (hi : i ≤ t) (h : post (nI (ca_lf A B s t i))) :
    ∀ d k m, k ≤ s → s - k < d → m ≤ t → (∀ n, 1 ≤ n → (n ≤ m ↔ ∃ k', k' < k ∧ ca_O A B s t k' i n)) → wX_longestFrom_4 post (nI i) (nI s) (nI t) A B C d (nI m) (nI k) := by
  intro d
  induction d with
  | zero => intro k m _ h; omega
  | succ d ih =>
    intro k m hk hd hmt hm
    refine pk_le s k (fun e => ?_) (fun e => ca_xsh hs ht hk hi (fun m' hm' => ?_))
    · have e2 : m = ca_lf A B s t i := ca_lf_eq (fun n h1 => (hm n h1).trans ⟨fun ⟨k', _, o⟩ => ⟨k', o⟩, fun ⟨k', o⟩ => ⟨k', by have := o.1; omega, o⟩⟩)
      rw [e2]; exact h
    · have o := (hm' m').mp (Nat.le_refl _)
      have o2 := o.2.1
      refine pk_le m' m (fun e2 => nm_r (nI_1 k) (ih (k + 1) m (by omega) (by omega) hmt (fun n h1 => ?_))) (fun e2 => nm_r (nI_1 k) (ih (k + 1) m' (by omega) (by omega) (by omega) (fun n h1 => ?_)))
      · refine ⟨fun z => ?_, fun ⟨k', z1, z2⟩ => ?_⟩
        · obtain ⟨k', z1, z2⟩ := (hm n h1).mp z
          exact ⟨k', by omega, z2⟩
        · by_cases e3 : k' = k
          · rw [e3] at z2
            have := (hm' n).mpr z2
            omega
          · exact (hm n h1).mpr ⟨k', by omega, z2⟩
      · refine ⟨fun z => ⟨k, by omega, (hm' n).mp z⟩, fun ⟨k', z1, z2⟩ => ?_⟩
        by_cases e3 : k' = k
        · rw [e3] at z2
          exact (hm' n).mpr z2
        · have := (hm n h1).mpr ⟨k', by omega, z2⟩
          omega
theorem ca_xlf (hs : s ≤ 32) (ht : t ≤ 24) (hi : i ≤ t) (h : post (nI (ca_lf A B s t i))) : wpX_longestFrom post (nI s, nI t, A, B, C) (nI i) :=
  ⟨s + 1, ca_xlf_lp hs ht hi h (s + 1) 0 0 (by omega) (by omega) (by omega) (fun n h1 => ⟨fun z => by omega, fun ⟨k', z, _⟩ => by omega⟩)⟩
theorem ca_xpl_lp (hs : s ≤ 32) (ht : t ≤ 24) (h1 : 1 ≤ n) (hi : i + n ≤ t) {r : Int32} (hr : ca_PL A B s t i n r) (h : post r) :
    ∀ d k, k ≤ s → s - k < d → (∀ j, j < k → ¬ ca_O A B s t j i n) → wX_leastPlace_2 post (nI i) (nI (i + n)) (nI s) (nI t) A B C d (nI k) := by
  intro d
  induction d with
  | zero => intro k _ h; omega
  | succ d ih =>
    intro k hk hd hl
    refine pk_le s k (fun e => ?_) (fun e => ca_xsh hs ht hk (by omega) (fun m hm => pk_lt m n (fun e2 => nm_r (nI_1 k) (ih (k + 1) (by omega) (by omega) (fun j hj z => ?_))) (fun e2 => ?_) rfl ((pk_sub (by omega)).trans (by rw [Nat.add_sub_cancel_left])) (by have := ((hm m).mp (Nat.le_refl _)).1; omega)))
    · have e2 := ca_PL_n hr (fun j z => hl j (by have := z.1; omega) z)
      rw [← e2]; exact h
    · by_cases e3 : j = k
      · rw [e3] at z
        have := (hm n).mpr z
        omega
      · exact hl j (by omega) z
    · rw [← ca_PL_k hr ((hm n).mp e2) hl]; exact h
theorem ca_xpl (hs : s ≤ 32) (ht : t ≤ 24) (h1 : 1 ≤ n) (hi : i + n ≤ t) {r : Int32} (hr : ca_PL A B s t i n r) (h : post r) : wpX_leastPlace post (nI s, nI t, A, B, C) (nI i) (nI (i + n)) :=
  ⟨s + 1, ca_xpl_lp hs ht h1 hi hr h (s + 1) 0 (by omega) (by omega) (fun j hj => absurd hj (Nat.not_lt_zero j))⟩
theorem ca_yst_lp (hs : s ≤ 32) (ht : t ≤ 24) (hk : k + n ≤ s) (hi : i + n ≤ t) (h1 : ca_O A B s t k i n → post 1) (h0 : ¬ ca_O A B s t k i n → post 0) :
    ∀ d x, x ≤ n → n - x < d → (∀ y, y < x → A (k + y) = B (i + y)) → wY_standsAt_15 post (nI k) (nI i) (nI n) (nI s) (nI t) A B C d (nI x) := by
  intro d
  induction d with
  | zero => intro x _ h; omega
  | succ d ih =>
    intro x hx hd hl
    refine pk_le n x (fun e => h1 ⟨hk, hi, fun y hy => hl y (by omega)⟩) (fun e => ⟨pk_in (k + x) 32 (by omega) (nI_add k x), pk_in (i + x) 24 (by omega) (nI_add i x), ?_⟩)
    have ea : A (nI k + nI x).toNatClampNeg = A (k + x) := congrArg A (pk_cl (k + x) (nI_add k x))
    have eb : B (nI i + nI x).toNatClampNeg = B (i + x) := congrArg B (pk_cl (i + x) (nI_add i x))
    by_cases e3 : A (k + x) = B (i + x)
    · refine br_t (by rw [ea, eb]; exact e3) (nm_r (nI_1 x) (ih (x + 1) (by omega) (by omega) (fun y hy => ?_)))
      by_cases e4 : y = x
      · rw [e4]; exact e3
      · exact hl y (by omega)
    · exact br_f (by rw [ea, eb]; exact e3) (h0 (fun z => e3 (z.2.2 x e)))
theorem ca_yst (hs : s ≤ 32) (ht : t ≤ 24) (hk : k ≤ s) (hi : i + n ≤ t) (h1 : ca_O A B s t k i n → post 1) (h0 : ¬ ca_O A B s t k i n → post 0) :
    wpY_standsAt post (nI s, nI t, A, B, C) (nI k) (nI i) (nI n) := by
  refine pk_le (k + n) s (fun e => ⟨n + 1, ca_yst_lp hs ht e hi h1 h0 (n + 1) 0 (by omega) (by omega) (fun y hy => absurd hy (Nat.not_lt_zero y))⟩) (fun e => h0 (fun z => ?_)) (nI_add k n)
  have := z.1; omega
theorem ca_10 : ¬ (1 : Int32) = 0 := by decide
theorem ca_ypl_lp (hs : s ≤ 32) (ht : t ≤ 24) (hi : i + n ≤ t) {r : Int32} (hr : ca_PL A B s t i n r) (h : post r) :
    ∀ d k, k ≤ s + 1 → s + 1 - k < d → (∀ j, j < k → ¬ ca_O A B s t j i n) → wY_placeOf_2 post (nI i) (nI n) (nI s) (nI t) A B C d (nI k) := by
  intro d
  induction d with
  | zero => intro k _ h; omega
  | succ d ih =>
    intro k hk hd hl
    refine pk_lt s (k + n) (fun e => ?_) (fun e => ca_yst hs ht (by omega) hi (fun o => br_f ca_10 ?_) (fun o => br_t rfl (nm_r (nI_1 k) (ih (k + 1) (by omega) (by omega) (fun j hj z => ?_))))) rfl (nI_add k n)
    · rw [← ca_PL_n hr (fun j z => hl j (by have := z.1; omega) z)]; exact h
    · rw [← ca_PL_k hr o hl]; exact h
    · by_cases e3 : j = k
      · rw [e3] at z; exact o z
      · exact hl j (by omega) z
theorem ca_ypl (hs : s ≤ 32) (ht : t ≤ 24) (hi : i + n ≤ t) {r : Int32} (hr : ca_PL A B s t i n r) (h : post r) : wpY_placeOf post (nI s, nI t, A, B, C) (nI i) (nI n) :=
  ⟨s + 2, ca_ypl_lp hs ht hi hr h (s + 2) 0 (by omega) (by omega) (fun j hj => absurd hj (Nat.not_lt_zero j))⟩
theorem ca_nI4 {a : Nat} (h : a < 2 ^ 31) : ¬ nI a = -4 := fun e => nI_pos h (by rw [e]; decide)
theorem ca_PL_4 {r : Int32} (hs : s ≤ 32) (h : ca_PL A B s t i n r) : r = -4 ↔ ∀ k, ¬ ca_O A B s t k i n := by
  refine ⟨fun e => ?_, fun e => ca_PL_n h e⟩
  rcases h with ⟨k, e1, o, _⟩ | ⟨_, h⟩
  · have := o.1
    exact absurd (e1.symm.trans e) (ca_nI4 (by omega))
  · exact h
theorem ca_ylf_lp (hs : s ≤ 32) (ht : t ≤ 24) (hi : i ≤ t) (h : post (nI (ca_lf A B s t i))) :
    ∀ d n m, n ≤ t + 1 → t + 1 - n < d → (∀ n', 1 ≤ n' → (n' ≤ m ↔ n' < n ∧ ∃ k, ca_O A B s t k i n')) → wY_longestFrom_4 post (nI i) (nI s) (nI t) A B C d (nI m) (nI n) := by
  intro d
  induction d with
  | zero => intro n m _ h; omega
  | succ d ih =>
    intro n m hn hd hm
    obtain ⟨r, hr⟩ := ca_PL_ex (A := A) (B := B) (s := s) (t := t) (i := i) (n := n)
    refine pk_lt (t - i) n (fun e => ?_) (fun e => ca_ypl hs ht (by omega) hr ?_) (pk_sub hi)
    · have e2 : m = ca_lf A B s t i := ca_lf_eq (fun n' h1 => (hm n' h1).trans ⟨fun z => z.2, fun ⟨k, z⟩ => ⟨by have := z.2.1; omega, k, z⟩⟩)
      rw [e2]; exact h
    · by_cases e4 : r = -4
      · have hno := (ca_PL_4 hs hr).mp e4
        refine br_t e4 (nm_r (nI_1 n) (ih (n + 1) m (by omega) (by omega) (fun n' h1 => (hm n' h1).trans ⟨fun z => ⟨by omega, z.2⟩, fun ⟨z, k, o⟩ => ⟨?_, k, o⟩⟩)))
        by_cases e5 : n' = n
        · rw [e5] at o; exact absurd o (hno k)
        · omega
      · have hyes : ∃ k, ca_O A B s t k i n := by
          rcases hr with ⟨k, _, o, _⟩ | ⟨e5, _⟩
          · exact ⟨k, o⟩
          · exact absurd e5 e4
        refine br_f e4 (nm_r (nI_1 n) (ih (n + 1) n (by omega) (by omega) (fun n' h1 => ⟨fun z => ⟨by omega, ?_⟩, fun z => by omega⟩)))
        exact hyes.elim fun k o => ⟨k, ca_O_le o z⟩
theorem ca_ylf (hs : s ≤ 32) (ht : t ≤ 24) (hi : i ≤ t) (h : post (nI (ca_lf A B s t i))) : wpY_longestFrom post (nI s, nI t, A, B, C) (nI i) :=
  ⟨t + 2, ca_ylf_lp hs ht hi h (t + 2) 1 0 (by omega) (by omega) (fun n' h1 => ⟨fun z => by omega, fun z => by omega⟩)⟩
end
end
section
/-! the relation; pieces, pieceLength, pieceFrom -/
def ca_L (A : Nat → Int32) (n : Nat) : Prop := ∀ j, j < n → ∃ c, c < 4 ∧ A j = nI c
/-- both sides hold the same texts (one function each) and the same lengths, and letters are letters; the scratch arrays are free -/
def i_Rel (_ : Nat) (u : SX) (v : SY) : Prop :=
  ∃ (s t : Nat) (A B C D : Nat → Int32), s ≤ 32 ∧ t ≤ 24 ∧ ca_L A s ∧ ca_L B t ∧ u = (nI s, nI t, A, B, C) ∧ v = (nI s, nI t, A, B, D)
theorem i_up {k : Nat} {u : SX} {v : SY} (h : i_Rel k u v) : i_Rel (k + 3) u v := h
noncomputable def ca_st (A B : Nat → Int32) (s t i : Nat) : Nat := if ca_lf A B s t i = 0 then 1 else ca_lf A B s t i
noncomputable def ca_bg (A B : Nat → Int32) (s t : Nat) : Nat → Nat
  | 0 => 0
  | p + 1 => if ca_bg A B s t p < t then ca_bg A B s t p + ca_st A B s t (ca_bg A B s t p) else ca_bg A B s t p
section
variable {A B C : Nat → Int32} {s t i p : Nat} {post : Int32 → Prop}
theorem ca_st_1 : 1 ≤ ca_st A B s t i := by
  unfold ca_st
  split <;> omega
theorem ca_st_0 (h : ca_lf A B s t i = 0) : ca_st A B s t i = 1 := by unfold ca_st; exact if_pos h
theorem ca_st_n (h : ca_lf A B s t i ≠ 0) : ca_st A B s t i = ca_lf A B s t i := by unfold ca_st; exact if_neg h
theorem ca_st_le (hi : i < t) : i + ca_st A B s t i ≤ t := by
  have := ca_lf_le (A := A) (B := B) (s := s) (t := t) (i := i) (by omega)
  unfold ca_st
  split <;> omega
theorem ca_bg_s (h : ca_bg A B s t p < t) : ca_bg A B s t (p + 1) = ca_bg A B s t p + ca_st A B s t (ca_bg A B s t p) := by
  rw [ca_bg]; exact if_pos h
theorem ca_bg_e (h : t ≤ ca_bg A B s t p) : ca_bg A B s t (p + 1) = ca_bg A B s t p := by
  rw [ca_bg]; exact if_neg (by omega)
theorem ca_bg_le (A B : Nat → Int32) (s t : Nat) : ∀ p, ca_bg A B s t p ≤ t := by
  intro p
  induction p with
  | zero => exact Nat.zero_le _
  | succ p ih =>
    by_cases h : ca_bg A B s t p < t
    · rw [ca_bg_s h]; exact ca_st_le h
    · rw [ca_bg_e (by omega)]; exact ih
theorem ca_bg_ge (A B : Nat → Int32) (s t : Nat) : ∀ p, p ≤ t → p ≤ ca_bg A B s t p := by
  intro p
  induction p with
  | zero => intro _; exact Nat.zero_le _
  | succ p ih =>
    intro hp
    have := ih (by omega)
    by_cases h : ca_bg A B s t p < t
    · rw [ca_bg_s h]
      have := ca_st_1 (A := A) (B := B) (s := s) (t := t) (i := ca_bg A B s t p)
      omega
    · rw [ca_bg_e (by omega)]; omega
theorem ca_bg_k {q : Nat} (h : t ≤ ca_bg A B s t q) : ∀ d, ca_bg A B s t (q + d) = ca_bg A B s t q := by
  intro d
  induction d with
  | zero => rfl
  | succ d ih => rw [show q + (d + 1) = (q + d) + 1 by omega, ca_bg_e (by omega), ih]
theorem ca_bg_k' {q : Nat} (h : t ≤ ca_bg A B s t q) (hp : q ≤ p) : ca_bg A B s t p = ca_bg A B s t q := by
  have := ca_bg_k h (p - q)
  rw [show q + (p - q) = p by omega] at this
  exact this
theorem ca_xpe (hs : s ≤ 32) (ht : t ≤ 24) (hi : i < t) (h : post (nI (i + ca_st A B s t i))) : wpX_pieceEnd post (nI s, nI t, A, B, C) (nI i) := by
  have hl := ca_lf_le (A := A) (B := B) (s := s) (t := t) (i := i) (by omega)
  unfold wpX_pieceEnd
  dsimp only
  refine ca_xlf hs ht (by omega) ?_
  refine pk_eq (ca_lf A B s t i) 0 (fun e => ?_) (fun e => ?_)
  · rw [nI_1, ← ca_st_0 e]; exact h
  · rw [nI_add, ← ca_st_n e]; exact h
theorem ca_xpc_lp (hs : s ≤ 32) (ht : t ≤ 24) (h : ∀ c, t ≤ ca_bg A B s t c → (∀ p, p < c → ca_bg A B s t p < t) → post (nI c)) :
    ∀ d c, c ≤ t → t - c < d → (∀ p, p < c → ca_bg A B s t p < t) → wX_pieces_4 post (nI s) (nI t) A B C d (nI c) (nI (ca_bg A B s t c)) := by
  intro d
  induction d with
  | zero => intro c _ h; omega
  | succ d ih =>
    intro c hc hd hl
    have hb := ca_bg_le A B s t c
    refine pk_le t c (fun e => h c (Nat.le_trans e (ca_bg_ge A B s t c hc)) hl) (fun e => pk_le t (ca_bg A B s t c) (fun e2 => h c e2 hl) (fun e2 => ca_xpe hs ht e2 ?_))
    rw [← ca_bg_s e2]
    refine nm_r (nI_1 c) (ih (c + 1) (by omega) (by omega) (fun p hp => ?_))
    by_cases e3 : p = c
    · rw [e3]; exact e2
    · exact hl p (by omega)
theorem ca_xpc (hs : s ≤ 32) (ht : t ≤ 24) (h : ∀ c, t ≤ ca_bg A B s t c → (∀ p, p < c → ca_bg A B s t p < t) → post (nI c)) : wpX_pieces post (nI s, nI t, A, B, C) :=
  ⟨t + 1, ca_xpc_lp hs ht h (t + 1) 0 (by omega) (by omega) (fun p hp => absurd hp (Nat.not_lt_zero p))⟩
theorem ca_ybg_lp (hs : s ≤ 32) (ht : t ≤ 24) (hp : p < 2 ^ 31) (h : post (nI (ca_bg A B s t p))) :
    ∀ d q, q ≤ p → t - ca_bg A B s t q < d → wY_beginOf_4 post (nI p) (nI s) (nI t) A B C d (nI (ca_bg A B s t q)) (nI q) := by
  intro d
  induction d with
  | zero => intro q _ h; omega
  | succ d ih =>
    intro q hq hd
    have hb := ca_bg_le A B s t q
    refine pk_le p q (fun e => ?_) (fun e => pk_le t (ca_bg A B s t q) (fun e2 => ?_) (fun e2 => ca_ylf hs ht (by omega) ?_))
    · rw [show q = p by omega]; exact h
    · rw [← ca_bg_k' e2 hq]; exact h
    · have hl := ca_lf_le (A := A) (B := B) (s := s) (t := t) (i := ca_bg A B s t q) (by omega)
      have hst := ca_st_1 (A := A) (B := B) (s := s) (t := t) (i := ca_bg A B s t q)
      have hg := ca_bg_s e2
      have hr := ih (q + 1) (by omega) (by omega)
      refine pk_eq (ca_lf A B s t (ca_bg A B s t q)) 0 (fun e3 => ?_) (fun e3 => ?_)
      · rw [hg, ca_st_0 e3] at hr
        exact nm_r (nI_1 _) (nm_r (nI_1 q) hr)
      · rw [hg, ca_st_n e3] at hr
        exact nm_r (nI_add _ _) (nm_r (nI_1 q) hr)
theorem ca_ybg (hs : s ≤ 32) (ht : t ≤ 24) (hp : p < 2 ^ 31) (h : post (nI (ca_bg A B s t p))) : wpY_beginOf post (nI s, nI t, A, B, C) (nI p) :=
  ⟨t + 1, ca_ybg_lp hs ht hp h (t + 1) 0 (by omega) (by omega)⟩
theorem ca_ybgn {x : Int32} (hx : x < 0) (h : post 0) : wpY_beginOf post (nI s, nI t, A, B, C) x :=
  ⟨1, br_t (Int32.le_of_lt hx) h⟩
theorem ca_ypc_lp (hs : s ≤ 32) (ht : t ≤ 24) (h : ∀ c, t ≤ ca_bg A B s t c → (∀ p, p < c → ca_bg A B s t p < t) → post (nI c)) :
    ∀ d c, c ≤ t → t - c < d → (∀ p, p < c → ca_bg A B s t p < t) → wY_pieces_2 post (nI s) (nI t) A B C d (nI c) := by
  intro d
  induction d with
  | zero => intro c _ h; omega
  | succ d ih =>
    intro c hc hd hl
    have hb := ca_bg_le A B s t c
    have hg := ca_bg_ge A B s t c hc
    refine pk_le 24 c (fun e => h c (by omega) hl) (fun e => ca_ybg hs ht (by omega) (pk_le t (ca_bg A B s t c) (fun e2 => h c e2 hl) (fun e2 => nm_r (nI_1 c) (ih (c + 1) (by omega) (by omega) (fun p hp => ?_)))))
    by_cases e3 : p = c
    · rw [e3]; exact e2
    · exact hl p (by omega)
theorem ca_ypc (hs : s ≤ 32) (ht : t ≤ 24) (h : ∀ c, t ≤ ca_bg A B s t c → (∀ p, p < c → ca_bg A B s t p < t) → post (nI c)) : wpY_pieces post (nI s, nI t, A, B, C) :=
  ⟨t + 1, ca_ypc_lp hs ht h (t + 1) 0 (by omega) (by omega) (fun p hp => absurd hp (Nat.not_lt_zero p))⟩
theorem ca_xpb_lp (hs : s ≤ 32) (ht : t ≤ 24) (hp : p < t) (h1 : ca_bg A B s t p < t → post (nI (ca_bg A B s t p))) (h0 : t ≤ ca_bg A B s t p → post (-4)) :
    ∀ d q, q ≤ p → p - q < d → wX_pieceBegin_19 post (nI p) (nI s) (nI t) A B C d (nI (ca_bg A B s t q)) (nI q) := by
  intro d
  induction d with
  | zero => intro q _ h; omega
  | succ d ih =>
    intro q hq hd
    have hb := ca_bg_le A B s t q
    refine pk_le p q (fun e => ?_) (fun e => pk_le t (ca_bg A B s t q) (fun e2 => ?_) (fun e2 => ca_xpe hs ht e2 ?_))
    · cases (show q = p by omega)
      exact pk_le t (ca_bg A B s t p) (fun e2 => h0 e2) (fun e2 => h1 e2)
    · have e3 := ca_bg_k' e2 hq
      exact pk_le t (ca_bg A B s t q) (fun e4 => h0 (by omega)) (fun e4 => by omega)
    · rw [← ca_bg_s e2]
      exact nm_r (nI_1 q) (ih (q + 1) (by omega) (by omega))
theorem ca_xpb (hs : s ≤ 32) (ht : t ≤ 24) (hp : p < 2 ^ 31) (h1 : ca_bg A B s t p < t → post (nI (ca_bg A B s t p))) (h0 : t ≤ ca_bg A B s t p → post (-4)) :
    wpX_pieceBegin post (nI s, nI t, A, B, C) (nI p) := by
  refine br_f (nI_pos hp) (pk_lt p t (fun e => ⟨p + 1, ca_xpb_lp hs ht e h1 h0 (p + 1) 0 (by omega) (by omega)⟩) (fun e => h0 ?_))
  have h2 := ca_bg_ge A B s t t (Nat.le_refl _)
  have h3 := ca_bg_k' h2 e
  omega
end
theorem i_vc_pieces {k : Nat} {u : SX} {v : SY} (I : i_Rel k u v) (hk : k + 3 ≤ 1536) : wpX_pieces (fun r => wpY_pieces (fun r' => r' = r ∧ i_Rel (k + 3) u v) v) u := by
  have J := i_up I
  obtain ⟨s, t, A, B, C, D, hs, ht, hA, hB, rfl, rfl⟩ := I
  refine ca_xpc hs ht (fun c h1 h2 => ca_ypc hs ht (fun c' h1' h2' => ⟨?_, J⟩))
  have e : c' = c := by
    rcases Nat.lt_trichotomy c' c with h | h | h
    · have := h2 c' h; omega
    · exact h
    · have := h2' c h; omega
  rw [e]
theorem i_vc_pieceLength {k : Nat} {u : SX} {v : SY} (I : i_Rel k u v) (hk : k + 3 ≤ 1536) (v1 : Int32) : wpX_pieceLength (fun r => wpY_pieceLength (fun r' => r' = r ∧ i_Rel (k + 3) u v) v v1) u v1 := by
  have J := i_up I
  obtain ⟨s, t, A, B, C, D, hs, ht, hA, hB, rfl, rfl⟩ := I
  unfold wpX_pieceLength wpY_pieceLength
  dsimp only
  by_cases hn : v1 < 0
  · exact br_t hn (br_t rfl (ca_ybgn hn (br_t hn ⟨rfl, J⟩)))
  · obtain ⟨p, hp, rfl⟩ := nI_of hn
    have hb := ca_bg_le A B s t p
    refine ca_xpb hs ht hp (fun e => ?_) (fun e => ?_)
    · have hl := ca_lf_le (A := A) (B := B) (s := s) (t := t) (i := ca_bg A B s t p) (by omega)
      refine br_f (ca_nI4 (by omega)) (ca_xpe hs ht e (ca_ybg hs ht hp (br_f hn (pk_lt (ca_bg A B s t p) t (fun _ => ca_ylf hs ht (by omega) ?_) (fun e2 => by omega)))))
      rw [pk_sub (by omega), Nat.add_sub_cancel_left]
      refine pk_eq (ca_lf A B s t (ca_bg A B s t p)) 0 (fun e3 => ⟨?_, J⟩) (fun e3 => ⟨?_, J⟩)
      · rw [ca_st_0 e3]; rfl
      · rw [ca_st_n e3]
    · exact br_t rfl (ca_ybg hs ht hp (br_f hn (pk_lt (ca_bg A B s t p) t (fun e2 => by omega) (fun e2 => ⟨rfl, J⟩))))
theorem ca_xpl' {A B C : Nat → Int32} {s t i j : Nat} {post : Int32 → Prop} (hs : s ≤ 32) (ht : t ≤ 24) (h1 : i < j) (hj : j ≤ t) {r : Int32} (hr : ca_PL A B s t i (j - i) r) (h : post r) : wpX_leastPlace post (nI s, nI t, A, B, C) (nI i) (nI j) := by
  obtain ⟨n, rfl⟩ : ∃ n, j = i + n := ⟨j - i, by omega⟩
  rw [Nat.add_sub_cancel_left] at hr
  exact ca_xpl hs ht (by omega) hj hr h
theorem i_vc_pieceFrom {k : Nat} {u : SX} {v : SY} (I : i_Rel k u v) (hk : k + 3 ≤ 1536) (v1 : Int32) : wpX_pieceFrom (fun r => wpY_pieceFrom (fun r' => r' = r ∧ i_Rel (k + 3) u v) v v1) u v1 := by
  have J := i_up I
  obtain ⟨s, t, A, B, C, D, hs, ht, hA, hB, rfl, rfl⟩ := I
  unfold wpX_pieceFrom wpY_pieceFrom
  dsimp only
  by_cases hn : v1 < 0
  · exact br_t hn (br_t rfl (ca_ybgn hn (br_t hn ⟨rfl, J⟩)))
  · obtain ⟨p, hp, rfl⟩ := nI_of hn
    have hb := ca_bg_le A B s t p
    refine ca_xpb hs ht hp (fun e => ?_) (fun e => ?_)
    · have hl := ca_lf_le (A := A) (B := B) (s := s) (t := t) (i := ca_bg A B s t p) (by omega)
      obtain ⟨r, hr⟩ := ca_PL_ex (A := A) (B := B) (s := s) (t := t) (i := ca_bg A B s t p) (n := ca_st A B s t (ca_bg A B s t p))
      have h1 := ca_st_1 (A := A) (B := B) (s := s) (t := t) (i := ca_bg A B s t p)
      refine br_f (ca_nI4 (by omega)) (ca_xpe hs ht e (ca_xpl hs ht h1 (ca_st_le e) hr (ca_ybg hs ht hp (br_f hn (pk_lt (ca_bg A B s t p) t (fun _ => ca_ylf hs ht (by omega) ?_) (fun e2 => by omega))))))
      refine pk_eq (ca_lf A B s t (ca_bg A B s t p)) 0 (fun e3 => ⟨?_, J⟩) (fun e3 => ?_)
      · rw [ca_st_0 e3] at hr
        refine (ca_PL_n hr (fun k z => ?_)).symm
        have := (ca_lf_iff (A := A) (B := B) (s := s) (t := t) (i := ca_bg A B s t p) (n := 1) (Nat.le_refl _)).mpr ⟨k, z⟩
        omega
      · rw [ca_st_n e3] at hr
        exact ca_ypl hs ht (by omega) hr ⟨rfl, J⟩
    · exact br_t rfl (ca_ybg hs ht hp (br_f hn (pk_lt (ca_bg A B s t p) t (fun e2 => by omega) (fun e2 => ⟨rfl, J⟩))))
end
section
/-! longest, longestAt, occurrences -/
noncomputable def ca_cn (P : Nat → Prop) : Nat → Nat
  | 0 => 0
  | n + 1 => @ite Nat (P n) (Classical.propDecidable _) (ca_cn P n + 1) (ca_cn P n)
theorem ca_cn_t {P : Nat → Prop} {n : Nat} (h : P n) : ca_cn P (n + 1) = ca_cn P n + 1 := by
  rw [ca_cn]; exact if_pos h
theorem ca_cn_f {P : Nat → Prop} {n : Nat} (h : ¬ P n) : ca_cn P (n + 1) = ca_cn P n := by
  rw [ca_cn]; exact if_neg h
theorem ca_cn_le (P : Nat → Prop) : ∀ n, ca_cn P n ≤ n := by
  intro n
  induction n with
  | zero => exact Nat.le_refl _
  | succ n ih =>
    by_cases h : P n
    · rw [ca_cn_t h]; omega
    · rw [ca_cn_f h]; omega
/-- the greatest length of all places, and the least place that has it -/
def ca_MX (A B : Nat → Int32) (s t a m : Nat) : Prop :=
  (∀ i, i < t → ca_lf A B s t i ≤ m) ∧ ((a < t ∧ ca_lf A B s t a = m ∧ ∀ i, i < a → ca_lf A B s t i < m) ∨ (t = 0 ∧ a = 0 ∧ m = 0))
section
variable {A B C : Nat → Int32} {s t i j p : Nat} {post : Int32 → Prop}
theorem ca_MX_u {a m a' m' : Nat} (h : ca_MX A B s t a m) (h' : ca_MX A B s t a' m') : a' = a ∧ m' = m := by
  obtain ⟨h1, h2⟩ := h
  obtain ⟨h1', h2'⟩ := h'
  rcases h2 with ⟨h2, h3, h4⟩ | ⟨e0, e1, e2⟩
  · rcases h2' with ⟨h2', h3', h4'⟩ | ⟨e0, e1, e2⟩
    · have i1 := h1 a' h2'
      have i2 := h1' a h2
      have em : m' = m := by omega
      refine ⟨?_, em⟩
      rcases Nat.lt_trichotomy a' a with z | z | z
      · have := h4 a' z; omega
      · exact z
      · have := h4' a z; omega
    · omega
  · rcases h2' with ⟨h2', _, _⟩ | ⟨e0', e1', e2'⟩
    · omega
    · omega
theorem ca_xla_lp (hs : s ≤ 32) (ht : t ≤ 24) (h : ∀ a m, ca_MX A B s t a m → post (nI a)) :
    ∀ d i a m, i ≤ t → t - i < d → a ≤ t → m ≤ t → (∀ i', i' < i → ca_lf A B s t i' ≤ m) → ((a < i ∧ ca_lf A B s t a = m ∧ ∀ i', i' < a → ca_lf A B s t i' < m) ∨ (i = 0 ∧ a = 0 ∧ m = 0)) →
    wX_longestAt_6 post (nI s) (nI t) A B C d (nI a) (nI m) (nI i) := by
  intro d
  induction d with
  | zero => intro i a m _ h; omega
  | succ d ih =>
    intro i a m hi hd ha hm h1 h2
    refine pk_le t i (fun e => h a m ?_) (fun e => ca_xlf hs ht hi ?_)
    · cases (show i = t by omega)
      exact ⟨h1, h2⟩
    · have hl := ca_lf_le (A := A) (B := B) (s := s) (t := t) (i := i) (by omega)
      refine pk_le (ca_lf A B s t i) m (fun e2 => nm_r (nI_1 i) (ih (i + 1) a m (by omega) (by omega) ha hm (fun i' hi' => ?_) (Or.inl ?_))) (fun e2 => nm_r (nI_1 i) (ih (i + 1) i (ca_lf A B s t i) (by omega) (by omega) (by omega) (by omega) (fun i' hi' => ?_) (Or.inl ⟨by omega, rfl, fun i' hi' => ?_⟩)))
      · by_cases e3 : i' = i
        · rw [e3]; exact e2
        · exact h1 i' (by omega)
      · rcases h2 with ⟨z1, z2, z3⟩ | ⟨z1, z2, z3⟩
        · exact ⟨by omega, z2, z3⟩
        · subst z1; subst z2; subst z3
          exact ⟨by omega, by omega, fun i' hi' => by omega⟩
      · by_cases e3 : i' = i
        · rw [e3]; exact Nat.le_refl _
        · have := h1 i' (by omega)
          omega
      · have := h1 i' hi'
        omega
theorem ca_xla (hs : s ≤ 32) (ht : t ≤ 24) (h : ∀ a m, ca_MX A B s t a m → post (nI a)) : wpX_longestAt post (nI s, nI t, A, B, C) :=
  ⟨t + 1, ca_xla_lp hs ht h (t + 1) 0 0 0 (by omega) (by omega) (by omega) (by omega) (fun i hi => absurd hi (Nat.not_lt_zero i)) (Or.inr ⟨rfl, rfl, rfl⟩)⟩
theorem ca_ylo_lp (hs : s ≤ 32) (ht : t ≤ 24) {a m : Nat} (hx : ca_MX A B s t a m) (h : post (nI m)) :
    ∀ d i w, i ≤ t → t - i < d → w ≤ t → (∀ i', i' < i → ca_lf A B s t i' ≤ w) → (w = 0 ∨ ∃ i', i' < i ∧ ca_lf A B s t i' = w) →
    wY_longest_4 post (nI s) (nI t) A B C d (nI w) (nI i) := by
  intro d
  induction d with
  | zero => intro i w _ h; omega
  | succ d ih =>
    intro i w hi hd hw h1 h2
    refine pk_le t i (fun e => ?_) (fun e => ca_ylf hs ht hi ?_)
    · have e2 : w = m := by
        obtain ⟨hx1, hx2⟩ := hx
        have b1 : w ≤ m := by
          rcases h2 with z | ⟨i', z1, z2⟩
          · omega
          · have := hx1 i' (by omega); omega
        rcases hx2 with ⟨z1, z2, z3⟩ | ⟨_, _, z3⟩
        · have := h1 a (by omega); omega
        · omega
      rw [e2]; exact h
    · have hl := ca_lf_le (A := A) (B := B) (s := s) (t := t) (i := i) (by omega)
      refine pk_le (ca_lf A B s t i) w (fun e2 => nm_r (nI_1 i) (ih (i + 1) w (by omega) (by omega) hw (fun i' hi' => ?_) ?_)) (fun e2 => nm_r (nI_1 i) (ih (i + 1) (ca_lf A B s t i) (by omega) (by omega) (by omega) (fun i' hi' => ?_) (Or.inr ⟨i, by omega, rfl⟩)))
      · by_cases e3 : i' = i
        · rw [e3]; exact e2
        · exact h1 i' (by omega)
      · rcases h2 with z | ⟨i', z1, z2⟩
        · exact Or.inl z
        · exact Or.inr ⟨i', by omega, z2⟩
      · by_cases e3 : i' = i
        · rw [e3]; exact Nat.le_refl _
        · have := h1 i' (by omega)
          omega
theorem ca_ylo (hs : s ≤ 32) (ht : t ≤ 24) {a m : Nat} (hx : ca_MX A B s t a m) (h : post (nI m)) : wpY_longest post (nI s, nI t, A, B, C) :=
  ⟨t + 1, ca_ylo_lp hs ht hx h (t + 1) 0 0 (by omega) (by omega) (by omega) (fun i hi => absurd hi (Nat.not_lt_zero i)) (Or.inl rfl)⟩
theorem ca_MX_b {a m : Nat} (hx : ca_MX A B s t a m) : a ≤ t ∧ m ≤ t ∧ ca_lf A B s t a = m := by
  rcases hx.2 with ⟨z1, z2, z3⟩ | ⟨z1, z2, z3⟩
  · have hl := ca_lf_le (A := A) (B := B) (s := s) (t := t) (i := a) (by omega)
    exact ⟨by omega, by omega, z2⟩
  · have hl := ca_lf_le (A := A) (B := B) (s := s) (t := t) (i := a) (by omega)
    exact ⟨by omega, by omega, by omega⟩
theorem ca_yla_lp (hs : s ≤ 32) (ht : t ≤ 24) {a m : Nat} (hx : ca_MX A B s t a m) (h : post (nI a)) :
    ∀ d i, i ≤ t → t - i < d → (∀ i', i' < i → ca_lf A B s t i' ≠ m) → wY_longestAt_7 post (nI m) (nI s) (nI t) A B C d (nI i) := by
  intro d
  induction d with
  | zero => intro i _ h; omega
  | succ d ih =>
    intro i hi hd h1
    have hb := ca_MX_b hx
    refine pk_le t i (fun e => ?_) (fun e => ca_ylf hs ht hi ?_)
    · rcases hx.2 with ⟨z1, z2, z3⟩ | ⟨z1, z2, z3⟩
      · exact absurd z2 (h1 a (by omega))
      · rw [z2] at h; exact h
    · have hl := ca_lf_le (A := A) (B := B) (s := s) (t := t) (i := i) (by omega)
      refine pk_eq (ca_lf A B s t i) m (fun e2 => ?_) (fun e2 => nm_r (nI_1 i) (ih (i + 1) (by omega) (by omega) (fun i' hi' => ?_)))
      · have e3 : i = a := by
          rcases hx.2 with ⟨z1, z2, z3⟩ | ⟨z1, z2, z3⟩
          · rcases Nat.lt_trichotomy i a with z | z | z
            · have := z3 i z; omega
            · exact z
            · exact absurd z2 (h1 a z)
          · omega
        rw [e3]; exact h
      · by_cases e3 : i' = i
        · rw [e3]; exact e2
        · exact h1 i' (by omega)
theorem ca_yla (hs : s ≤ 32) (ht : t ≤ 24) {a m : Nat} (hx : ca_MX A B s t a m) (h : post (nI a)) : wpY_longestAt post (nI s, nI t, A, B, C) := by
  unfold wpY_longestAt
  dsimp only
  exact ca_ylo hs ht hx ⟨t + 1, ca_yla_lp hs ht hx h (t + 1) 0 (by omega) (by omega) (fun i hi => absurd hi (Nat.not_lt_zero i))⟩
theorem ca_xoc_lp (hs : s ≤ 32) (ht : t ≤ 24) (hi : i ≤ j) (hj : j ≤ t) (h : post (nI (ca_cn (fun k => ca_O A B s t k i (j - i)) (s + 1)))) :
    ∀ d k, k ≤ s + 1 → s + 1 - k < d → wX_occurrences_24 post (nI i) (nI j) (nI s) (nI t) A B C d (nI (ca_cn (fun k => ca_O A B s t k i (j - i)) k)) (nI k) := by
  intro d
  induction d with
  | zero => intro k _ h; omega
  | succ d ih =>
    intro k hk hd
    refine pk_lt s k (fun e => ?_) (fun e => ca_xsh hs ht (by omega) (by omega) (fun m hm => ?_))
    · cases (show k = s + 1 by omega)
      exact h
    · have hr := ih (k + 1) (by omega) (by omega)
      have hm1 := ((hm m).mp (Nat.le_refl _)).1
      refine pk_lt m (j - i) (fun e2 => ?_) (fun e2 => ?_) rfl (pk_sub hi)
      · rw [ca_cn_f (P := fun k => ca_O A B s t k i (j - i)) (fun z => by have := (hm _).mpr z; omega)] at hr
        exact nm_r (nI_1 k) hr
      · rw [ca_cn_t (P := fun k => ca_O A B s t k i (j - i)) ((hm _).mp e2)] at hr
        exact nm_r (nI_1 _) (nm_r (nI_1 k) hr)
theorem ca_yoc_lp (hs : s ≤ 32) (ht : t ≤ 24) (hi : i ≤ j) (hj : j ≤ t) (h : post (nI (ca_cn (fun k => ca_O A B s t k i (j - i)) (s + 1)))) :
    ∀ d k, k ≤ s + 1 → s + 1 - k < d → wY_occurrences_24 post (nI i) (nI j) (nI s) (nI t) A B C d (nI (ca_cn (fun k => ca_O A B s t k i (j - i)) k)) (nI k) := by
  intro d
  induction d with
  | zero => intro k _ h; omega
  | succ d ih =>
    intro k hk hd
    refine pk_lt s k (fun e => ?_) (fun e => ?_)
    · cases (show k = s + 1 by omega)
      exact h
    · have hr := ih (k + 1) (by omega) (by omega)
      rw [pk_sub hi]
      refine ca_yst hs ht (by omega) (by omega) (fun o => br_f ca_10 ?_) (fun o => br_t rfl ?_)
      · rw [ca_cn_t (P := fun k => ca_O A B s t k i (j - i)) o] at hr
        exact nm_r (nI_1 _) (nm_r (nI_1 k) hr)
      · rw [ca_cn_f (P := fun k => ca_O A B s t k i (j - i)) o] at hr
        exact nm_r (nI_1 k) hr
end
theorem i_vc_longest {k : Nat} {u : SX} {v : SY} (I : i_Rel k u v) (hk : k + 3 ≤ 1536) : wpX_longest (fun r => wpY_longest (fun r' => r' = r ∧ i_Rel (k + 3) u v) v) u := by
  have J := i_up I
  obtain ⟨s, t, A, B, C, D, hs, ht, hA, hB, rfl, rfl⟩ := I
  unfold wpX_longest
  dsimp only
  refine ca_xla hs ht (fun a m hx => ?_)
  have hb := ca_MX_b hx
  refine ca_xlf hs ht hb.1 (ca_ylo hs ht hx ⟨?_, J⟩)
  rw [hb.2.2]
theorem i_vc_longestAt {k : Nat} {u : SX} {v : SY} (I : i_Rel k u v) (hk : k + 3 ≤ 1536) : wpX_longestAt (fun r => wpY_longestAt (fun r' => r' = r ∧ i_Rel (k + 3) u v) v) u := by
  have J := i_up I
  obtain ⟨s, t, A, B, C, D, hs, ht, hA, hB, rfl, rfl⟩ := I
  exact ca_xla hs ht (fun a m hx => ca_yla hs ht hx ⟨rfl, J⟩)
theorem ca_neg_le {x : Int32} {n : Nat} (h : ¬ x < 0) (hn : n < 2 ^ 31) (hx : x ≤ nI n) : ∃ j, j ≤ n ∧ x = nI j := by
  obtain ⟨j, hj, rfl⟩ := nI_of h
  exact ⟨j, (nI_leI hj hn).mp hx, rfl⟩
theorem i_vc_occurrences {k : Nat} {u : SX} {v : SY} (I : i_Rel k u v) (hk : k + 3 ≤ 1536) (v1 : Int32) (v2 : Int32) : wpX_occurrences (fun r => wpY_occurrences (fun r' => r' = r ∧ i_Rel (k + 3) u v) v v1 v2) u v1 v2 := by
  have J := i_up I
  obtain ⟨s, t, A, B, C, D, hs, ht, hA, hB, rfl, rfl⟩ := I
  by_cases h1 : v1 < 0
  · exact br_t h1 (br_t h1 ⟨rfl, J⟩)
  · by_cases h2 : v2 < v1
    · exact br_f h1 (br_t h2 (br_f h1 (br_t h2 ⟨rfl, J⟩)))
    · by_cases h3 : v2 ≤ nI t
      · have h1' := Int32.not_lt.mp h1
        have h2' := Int32.not_lt.mp h2
        obtain ⟨j, hj, rfl⟩ := ca_neg_le (x := v2) (n := t) (Int32.not_lt.mpr (Int32.le_trans h1' h2')) (by omega) h3
        obtain ⟨i, hi, rfl⟩ := ca_neg_le (x := v1) (n := j) h1 (by omega) h2'
        refine br_f h1 (br_f h2 (br_t h3 ⟨s + 2, ca_xoc_lp hs ht hi hj ?_ (s + 2) 0 (by omega) (by omega)⟩))
        exact br_f h1 (br_f h2 (br_t h3 ⟨s + 2, ca_yoc_lp hs ht hi hj ⟨rfl, J⟩ (s + 2) 0 (by omega) (by omega)⟩))
      · exact br_f h1 (br_f h2 (br_f h3 (br_f h1 (br_f h2 (br_f h3 ⟨rfl, J⟩)))))
end
section
/-! seenBefore of X, standsBefore of Y, wordsOf of both -/
def ca_E (A : Nat → Int32) (s k e n : Nat) : Prop := k + n ≤ s ∧ ∀ x, x < n → A (e + x) = A (k + x)
noncomputable def ca_wo (A : Nat → Int32) (s w : Nat) : Nat := ca_cn (fun p => ca_sb A s p < w) (s + 1 - w)
section
variable {A B C : Nat → Int32} {s t k e m : Nat} {post : Int32 → Prop}
theorem ca_E_le {n n' : Nat} (h : ca_E A s k e n) (hn : n' ≤ n) : ca_E A s k e n' :=
  ⟨by have := h.1; omega, fun x hx => h.2 x (by omega)⟩
theorem ca_xs50 {J4 : Int32 → Int32 → Prop} {m' : Nat} (hm : m < 2 ^ 31) (hm' : m' < 2 ^ 31) (h1 : m' ≤ m → J4 (nI m) (nI (e + 1))) (h2 : m < m' → J4 (nI m') (nI (e + 1))) :
    wX_seenBefore_50 post J4 (nI k) (nI m) (nI e) (nI m') (nI s) (nI t) A B C :=
  pk_le m' m (fun z => nm_r (nI_1 e) (h1 z)) (fun z => nm_r (nI_1 e) (h2 z))
theorem ca_xs12 {J4 : Int32 → Int32 → Prop} (hs : s ≤ 32) (hk : k ≤ s) (he : e < k) (hm : m ≤ s)
    (h : ∀ m', (∀ n, n ≤ m' ↔ ca_E A s k e n) → (m' ≤ m → J4 (nI m) (nI (e + 1))) ∧ (m < m' → J4 (nI m') (nI (e + 1)))) :
    ∀ d n, ca_E A s k e n → s - (k + n) < d → wX_seenBefore_12 post J4 (nI k) (nI m) (nI e) (nI s) (nI t) A B C d (nI n) := by
  intro d
  induction d with
  | zero => intro n _ h; omega
  | succ d ih =>
    intro n ho hd
    have h1 := ho.1
    refine pk_le s (k + n) (fun z => ?_) (fun z => ⟨pk_in (e + n) 32 (by omega) (nI_add e n), pk_in (k + n) 32 (by omega) (nI_add k n), ?_⟩) rfl (nI_add k n)
    · have hh := h n (fun n' => ⟨fun y => ca_E_le ho y, fun y => by have := y.1; omega⟩)
      exact ca_xs50 (by omega) (by omega) hh.1 hh.2
    · have ea : A (nI e + nI n).toNatClampNeg = A (e + n) := congrArg A (pk_cl (e + n) (nI_add e n))
      have eb : A (nI k + nI n).toNatClampNeg = A (k + n) := congrArg A (pk_cl (k + n) (nI_add k n))
      by_cases e3 : A (e + n) = A (k + n)
      · refine br_t (by rw [ea, eb]; exact e3) (nm_r (nI_1 n) (ih (n + 1) ⟨by omega, fun x hx => ?_⟩ (by omega)))
        by_cases e4 : x = n
        · rw [e4]; exact e3
        · exact ho.2 x (by omega)
      · have hh := h n (fun n' => ⟨fun y => ca_E_le ho y, fun y => by
          by_cases e4 : n' ≤ n
          · exact e4
          · exact absurd (y.2 n (by omega)) e3⟩)
        exact br_f (by rw [ea, eb]; exact e3) (ca_xs50 (by omega) (by omega) hh.1 hh.2)
theorem ca_xs4 (hs : s ≤ 32) (hk : k ≤ s) (h : post (nI (ca_sb A s k))) :
    ∀ d e m, e ≤ k → k - e < d → m ≤ s → (∀ n, 1 ≤ n → (n ≤ m ↔ ∃ e', e' < e ∧ ca_E A s k e' n)) → wX_seenBefore_4 post (nI k) (nI s) (nI t) A B C d (nI m) (nI e) := by
  intro d
  induction d with
  | zero => intro e m _ h; omega
  | succ d ih =>
    intro e m he hd hm hi
    refine pk_le k e (fun z => ?_) (fun z => ⟨s + 1, ca_xs12 hs hk z hm (fun m' hm' => ?_) (s + 1) 0 ⟨by omega, fun x hx => absurd hx (Nat.not_lt_zero x)⟩ (by omega)⟩)
    · have e2 : m = ca_sb A s k := ca_sb_eq (fun n h1 => (hi n h1).trans ⟨fun ⟨e', y1, y2⟩ => ⟨y2.1, e', by omega, y2.2⟩, fun ⟨y1, e', y2, y3⟩ => ⟨e', by omega, y1, y3⟩⟩)
      rw [e2]; exact h
    · have hm1 := ((hm' m').mp (Nat.le_refl _)).1
      refine ⟨fun y => ih (e + 1) m (by omega) (by omega) hm (fun n h1 => ⟨fun w => ?_, fun ⟨e', w1, w2⟩ => ?_⟩), fun y => ih (e + 1) m' (by omega) (by omega) (by omega) (fun n h1 => ⟨fun w => ⟨e, by omega, (hm' n).mp w⟩, fun ⟨e', w1, w2⟩ => ?_⟩)⟩
      · obtain ⟨e', w1, w2⟩ := (hi n h1).mp w
        exact ⟨e', by omega, w2⟩
      · by_cases e3 : e' = e
        · rw [e3] at w2
          have := (hm' n).mpr w2
          omega
        · exact (hi n h1).mpr ⟨e', by omega, w2⟩
      · by_cases e3 : e' = e
        · rw [e3] at w2
          exact (hm' n).mpr w2
        · have := (hi n h1).mpr ⟨e', by omega, w2⟩
          omega
theorem ca_xsb (hs : s ≤ 32) (hk : k ≤ s) (h : post (nI (ca_sb A s k))) : wpX_seenBefore post (nI s, nI t, A, B, C) (nI k) :=
  ⟨k + 1, ca_xs4 hs hk h (k + 1) 0 0 (by omega) (by omega) (by omega) (fun n h1 => ⟨fun z => by omega, fun ⟨e', z, _⟩ => by omega⟩)⟩
theorem ca_ysm_lp {l n : Nat} (hs : s ≤ 32) (hl : l ≤ k) (hk : k + n ≤ s) (h1 : ca_E A s k l n → post 1) (h0 : ¬ ca_E A s k l n → post 0) :
    ∀ d x, x ≤ n → n - x < d → (∀ y, y < x → A (l + y) = A (k + y)) → wY_same_3 post (nI l) (nI k) (nI n) (nI s) (nI t) A B C d (nI x) := by
  intro d
  induction d with
  | zero => intro x _ h; omega
  | succ d ih =>
    intro x hx hd hl2
    refine pk_le n x (fun z => h1 ⟨hk, fun y hy => hl2 y (by omega)⟩) (fun z => ⟨pk_in (l + x) 32 (by omega) (nI_add l x), pk_in (k + x) 32 (by omega) (nI_add k x), ?_⟩)
    have ea : A (nI l + nI x).toNatClampNeg = A (l + x) := congrArg A (pk_cl (l + x) (nI_add l x))
    have eb : A (nI k + nI x).toNatClampNeg = A (k + x) := congrArg A (pk_cl (k + x) (nI_add k x))
    by_cases e3 : A (l + x) = A (k + x)
    · refine br_t (by rw [ea, eb]; exact e3) (nm_r (nI_1 x) (ih (x + 1) (by omega) (by omega) (fun y hy => ?_)))
      by_cases e4 : y = x
      · rw [e4]; exact e3
      · exact hl2 y (by omega)
    · exact br_f (by rw [ea, eb]; exact e3) (h0 (fun w => e3 (w.2 x z)))
theorem ca_ysb_lp {n : Nat} (hs : s ≤ 32) (h1n : 1 ≤ n) (hk : k + n ≤ s) (h1 : n ≤ ca_sb A s k → post 1) (h0 : ca_sb A s k < n → post 0) :
    ∀ d l, l ≤ k → k - l < d → (∀ l', l' < l → ¬ ca_E A s k l' n) → wY_standsBefore_2 post (nI k) (nI n) (nI s) (nI t) A B C d (nI l) := by
  intro d
  induction d with
  | zero => intro l _ h; omega
  | succ d ih =>
    intro l hl hd hno
    refine pk_le k l (fun z => h0 ?_) (fun z => ⟨n + 1, ca_ysm_lp hs hl hk (fun o => br_f ca_10 (h1 ?_)) (fun o => br_t rfl (nm_r (nI_1 l) (ih (l + 1) (by omega) (by omega) (fun l' hl' w => ?_)))) (n + 1) 0 (by omega) (by omega) (fun y hy => absurd hy (Nat.not_lt_zero y))⟩)
    · apply Nat.lt_of_not_le
      intro w
      obtain ⟨w1, e', w2, w3⟩ := (ca_sb_iff h1n).mp w
      exact hno e' (by omega) ⟨w1, w3⟩
    · exact (ca_sb_iff h1n).mpr ⟨hk, l, z, o.2⟩
    · by_cases e3 : l' = l
      · rw [e3] at w; exact o w
      · exact hno l' (by omega) w
theorem ca_ysb {n : Nat} (hs : s ≤ 32) (h1n : 1 ≤ n) (hk : k + n ≤ s) (h1 : n ≤ ca_sb A s k → post 1) (h0 : ca_sb A s k < n → post 0) : wpY_standsBefore post (nI s, nI t, A, B, C) (nI k) (nI n) :=
  ⟨k + 1, ca_ysb_lp hs h1n hk h1 h0 (k + 1) 0 (by omega) (by omega) (fun y hy => absurd hy (Nat.not_lt_zero y))⟩
theorem ca_sneg {w : Nat} (hs : s ≤ 32) (hw : w < 2 ^ 31) (h : s < w) : nI s - nI w < 0 := by
  rw [Int32.lt_iff_toInt_lt, Int32.toInt_sub, nI_toInt (by omega), nI_toInt hw, show (0 : Int32).toInt = 0 from by decide, Int.bmod_eq_of_le (by omega) (by omega)]
  omega
theorem ca_xwo_lp {w : Nat} (hs : s ≤ 32) (h1 : 1 ≤ w) (hw : w ≤ s) (h : post (nI (ca_wo A s w))) :
    ∀ d p, p ≤ s + 1 - w → s + 1 - w - p < d → wX_wordsOf_11 post (nI w) (nI s) (nI t) A B C d (nI (ca_cn (fun p => ca_sb A s p < w) p)) (nI p) := by
  intro d
  induction d with
  | zero => intro p _ h; omega
  | succ d ih =>
    intro p hp hd
    refine pk_lt (s - w) p (fun z => ?_) (fun z => ca_xsb hs (by omega) ?_) (pk_sub hw)
    · cases (show p = s + 1 - w by omega)
      exact h
    · have hb := ca_sb_le (A := A) (s := s) (k := p) (by omega)
      have hr := ih (p + 1) (by omega) (by omega)
      refine pk_le w (ca_sb A s p) (fun y => ?_) (fun y => ?_)
      · rw [ca_cn_f (P := fun p => ca_sb A s p < w) (n := p) (by omega)] at hr
        exact nm_r (nI_1 p) hr
      · rw [ca_cn_t (P := fun p => ca_sb A s p < w) (n := p) y] at hr
        exact nm_r (nI_1 _) (nm_r (nI_1 p) hr)
theorem ca_xwo {w : Nat} (hs : s ≤ 32) (h1 : 1 ≤ w) (hw : w < 2 ^ 31) (h : post (nI (ca_wo A s w))) : wpX_wordsOf post (nI s, nI t, A, B, C) (nI w) := by
  refine pk_le 1 w (fun _ => ?_) (fun z => by omega)
  by_cases hws : w ≤ s
  · exact ⟨s + 2, ca_xwo_lp hs h1 hws h (s + 2) 0 (by omega) (by omega)⟩
  · refine ⟨1, br_t (ca_sneg hs hw (by omega)) ?_⟩
    unfold ca_wo at h
    rw [show s + 1 - w = 0 by omega] at h
    exact h
theorem ca_ywo_lp {w : Nat} (hs : s ≤ 32) (h1 : 1 ≤ w) (hw : w ≤ s) (h : post (nI (ca_wo A s w))) :
    ∀ d p, p ≤ s + 1 - w → s + 1 - w - p < d → wY_wordsOf_19 post (nI w) (nI s) (nI t) A B C d (nI (ca_cn (fun p => ca_sb A s p < w) p)) (nI p) := by
  intro d
  induction d with
  | zero => intro p _ h; omega
  | succ d ih =>
    intro p hp hd
    refine pk_lt s (p + w) (fun z => ?_) (fun z => ?_) rfl (nI_add p w)
    · cases (show p = s + 1 - w by omega)
      exact h
    · have hr := ih (p + 1) (by omega) (by omega)
      refine ca_ysb hs h1 (by omega) (fun y => br_f ca_10 ?_) (fun y => br_t rfl ?_)
      · rw [ca_cn_f (P := fun p => ca_sb A s p < w) (n := p) (by omega)] at hr
        exact nm_r (nI_1 p) hr
      · rw [ca_cn_t (P := fun p => ca_sb A s p < w) (n := p) y] at hr
        exact nm_r (nI_1 _) (nm_r (nI_1 p) hr)
theorem ca_ywo {w : Nat} (hs : s ≤ 32) (h1 : 1 ≤ w) (hw : w < 2 ^ 31) (h : post (nI (ca_wo A s w))) : wpY_wordsOf post (nI s, nI t, A, B, C) (nI w) := by
  refine pk_lt w 1 (fun z => by omega) (fun _ => pk_le w s (fun z => ⟨s + 2, ca_ywo_lp hs h1 z h (s + 2) 0 (by omega) (by omega)⟩) (fun z => ?_))
  unfold ca_wo at h
  rw [show s + 1 - w = 0 by omega] at h
  exact h
end
theorem i_vc_wordsOf {k : Nat} {u : SX} {v : SY} (I : i_Rel k u v) (hk : k + 3 ≤ 1536) (v1 : Int32) : wpX_wordsOf (fun r => wpY_wordsOf (fun r' => r' = r ∧ i_Rel (k + 3) u v) v v1) u v1 := by
  have J := i_up I
  obtain ⟨s, t, A, B, C, D, hs, ht, hA, hB, rfl, rfl⟩ := I
  by_cases h1 : 1 ≤ v1
  · obtain ⟨w, hw, rfl⟩ := nI_of (x := v1) (Int32.not_lt.mpr (Int32.le_trans (by decide) h1))
    have hw1 : 1 ≤ w := (nI_leI (a := 1) (b := w) (by omega) hw).mp h1
    exact ca_xwo hs hw1 hw (ca_ywo hs hw1 hw ⟨rfl, J⟩)
  · exact br_f h1 (br_t (Int32.not_le.mp h1) ⟨rfl, J⟩)
end
section
/-! counting twice, the pigeonhole; words, shortestAbsent, longestRepeat -/
def ca_sum (f : Nat → Nat) : Nat → Nat
  | 0 => 0
  | n + 1 => ca_sum f n + f n
theorem ca_sum_c {f g : Nat → Nat} : ∀ n, (∀ j, j < n → f j = g j) → ca_sum f n = ca_sum g n := by
  intro n
  induction n with
  | zero => intro _; rfl
  | succ n ih =>
    intro h
    show ca_sum f n + f n = ca_sum g n + g n
    rw [ih (fun j hj => h j (by omega)), h n (by omega)]
theorem ca_cn_c {P Q : Nat → Prop} : ∀ n, (∀ j, j < n → (P j ↔ Q j)) → ca_cn P n = ca_cn Q n := by
  intro n
  induction n with
  | zero => intro _; rfl
  | succ n ih =>
    intro h
    have e := ih (fun j hj => h j (by omega))
    by_cases hp : P n
    · rw [ca_cn_t hp, ca_cn_t ((h n (by omega)).mp hp), e]
    · rw [ca_cn_f hp, ca_cn_f (fun z => hp ((h n (by omega)).mpr z)), e]
theorem ca_cn_0 {P : Nat → Prop} : ∀ n, (∀ j, j < n → ¬ P j) → ca_cn P n = 0 := by
  intro n
  induction n with
  | zero => intro _; rfl
  | succ n ih => intro h; rw [ca_cn_f (h n (by omega)), ih (fun j hj => h j (by omega))]
theorem ca_cn_all {P : Nat → Prop} : ∀ n, (∀ j, j < n → P j) → ca_cn P n = n := by
  intro n
  induction n with
  | zero => intro _; rfl
  | succ n ih => intro h; rw [ca_cn_t (h n (by omega)), ih (fun j hj => h j (by omega))]
theorem ca_cn_lt {P : Nat → Prop} : ∀ n, ca_cn P n < n ↔ ∃ j, j < n ∧ ¬ P j := by
  intro n
  induction n with
  | zero => exact ⟨fun h => absurd h (Nat.not_lt_zero _), fun ⟨j, h, _⟩ => absurd h (Nat.not_lt_zero _)⟩
  | succ n ih =>
    have hle := ca_cn_le P n
    by_cases hp : P n
    · rw [ca_cn_t hp]
      refine ⟨fun h => ?_, fun ⟨j, h1, h2⟩ => ?_⟩
      · obtain ⟨j, h1, h2⟩ := ih.mp (by omega)
        exact ⟨j, by omega, h2⟩
      · have : j ≠ n := fun e => h2 (by rw [e]; exact hp)
        have := ih.mpr ⟨j, by omega, h2⟩
        omega
    · rw [ca_cn_f hp]
      exact ⟨fun _ => ⟨n, by omega, hp⟩, fun _ => by omega⟩
theorem ca_cn_cut {P : Nat → Prop} {M : Nat} : ∀ N, M ≤ N → ca_cn P M = ca_cn (fun p => P p ∧ p < M) N := by
  intro N
  induction N with
  | zero => intro h; cases (show M = 0 by omega); rfl
  | succ N ih =>
    intro h
    by_cases e : M = N + 1
    · subst e
      exact ca_cn_c _ (fun j hj => ⟨fun z => ⟨z, hj⟩, fun z => z.1⟩)
    · rw [ca_cn_f (P := fun p => P p ∧ p < M) (n := N) (fun z => by have := z.2; omega)]
      exact ih (by omega)
theorem ca_cn_iv {a b : Nat} : ∀ N, ca_cn (fun j => a ≤ j ∧ j < b) N = (if N ≤ b then N else b) - a := by
  intro N
  induction N with
  | zero =>
    show 0 = _
    split <;> omega
  | succ N ih =>
    by_cases h : a ≤ N ∧ N < b
    · rw [ca_cn_t (P := fun j => a ≤ j ∧ j < b) h, ih]
      rw [if_pos (by omega), if_pos (by omega)]
      omega
    · rw [ca_cn_f (P := fun j => a ≤ j ∧ j < b) h, ih]
      split <;> split <;> omega
theorem ca_sum_cn {f : Nat → Nat} {P : Nat → Prop} : ∀ M g, (∀ j, j < M → (P j → g j = f j + 1) ∧ (¬ P j → g j = f j)) → ca_sum g M = ca_sum f M + ca_cn P M := by
  intro M
  induction M with
  | zero => intro g _; rfl
  | succ M ih =>
    intro g h
    have e := ih g (fun j hj => h j (by omega))
    have hM := h M (by omega)
    show ca_sum g M + g M = ca_sum f M + f M + ca_cn P (M + 1)
    by_cases hp : P M
    · rw [ca_cn_t hp, e, hM.1 hp]; omega
    · rw [ca_cn_f hp, e, hM.2 hp]; omega
theorem ca_sum_0 : ∀ M, ca_sum (fun _ => 0) M = 0 := by
  intro M
  induction M with
  | zero => rfl
  | succ M ih => show ca_sum (fun _ => 0) M + 0 = 0; rw [ih]
theorem ca_fub (R : Nat → Nat → Prop) (M : Nat) : ∀ N, ca_sum (fun j => ca_cn (fun p => R p j) N) M = ca_sum (fun p => ca_cn (fun j => R p j) M) N := by
  intro N
  induction N with
  | zero => exact ca_sum_0 M
  | succ N ih =>
    show _ = ca_sum (fun p => ca_cn (fun j => R p j) M) N + ca_cn (fun j => R N j) M
    rw [← ih]
    exact ca_sum_cn M _ (fun j _ => ⟨fun h => ca_cn_t (P := fun p => R p j) h, fun h => ca_cn_f (P := fun p => R p j) h⟩)
theorem ca_words (A : Nat → Int32) (s : Nat) : ca_sum (fun p => s - p - ca_sb A s p) s = ca_sum (fun j => ca_wo A s (j + 1)) s := by
  have e1 : ca_sum (fun j => ca_wo A s (j + 1)) s = ca_sum (fun j => ca_cn (fun p => ca_sb A s p < j + 1 ∧ p < s + 1 - (j + 1)) s) s :=
    ca_sum_c s (fun j hj => ca_cn_cut (P := fun p => ca_sb A s p < j + 1) s (by omega))
  rw [e1, ca_fub (fun p j => ca_sb A s p < j + 1 ∧ p < s + 1 - (j + 1)) s s]
  refine ca_sum_c s (fun p hp => ?_)
  have e2 : ca_cn (fun j => ca_sb A s p < j + 1 ∧ p < s + 1 - (j + 1)) s = ca_cn (fun j => ca_sb A s p ≤ j ∧ j < s - p) s :=
    ca_cn_c s (fun j hj => ⟨fun z => ⟨by omega, by omega⟩, fun z => ⟨by omega, by omega⟩⟩)
  rw [e2, ca_cn_iv]
  by_cases h0 : p = 0
  · subst h0
    rw [if_pos (by omega)]; omega
  · rw [if_neg (by omega)]
theorem ca_cn_or {P Q R : Nat → Prop} : ∀ L, (∀ p, p < L → P p → Q p ∨ R p) → ca_cn P L ≤ ca_cn Q L + ca_cn R L := by
  intro L
  induction L with
  | zero => intro _; exact Nat.le_refl _
  | succ L ih =>
    intro h
    have e := ih (fun p hp => h p (by omega))
    have hq : ca_cn Q L ≤ ca_cn Q (L + 1) := by
      by_cases z : Q L
      · rw [ca_cn_t z]; omega
      · rw [ca_cn_f z]; omega
    have hr : ca_cn R L ≤ ca_cn R (L + 1) := by
      by_cases z : R L
      · rw [ca_cn_t z]; omega
      · rw [ca_cn_f z]; omega
    by_cases hp : P L
    · rw [ca_cn_t hp]
      rcases h L (by omega) hp with z | z
      · rw [ca_cn_t z]; omega
      · rw [ca_cn_t z]; omega
    · rw [ca_cn_f hp]; omega
theorem ca_one {Q : Nat → Prop} : ∀ L, (∀ p e, p < L → e < p → Q e → Q p → False) → ca_cn Q L ≤ 1 := by
  intro L
  induction L with
  | zero => intro _; exact Nat.zero_le _
  | succ L ih =>
    intro h
    by_cases hq : Q L
    · rw [ca_cn_t hq, ca_cn_0 L (fun e he z => h L e (by omega) he z hq)]
      omega
    · rw [ca_cn_f hq]
      exact ih (fun p e hp => h p e (by omega))
theorem ca_pig {f : Nat → Nat} {L : Nat} : ∀ M (P : Nat → Prop), (∀ p, p < L → P p → f p < M) → (∀ p e, p < L → e < p → P e → P p → f e ≠ f p) → ca_cn P L ≤ M := by
  intro M
  induction M with
  | zero =>
    intro P h1 _
    rw [ca_cn_0 L (fun p hp z => absurd (h1 p hp z) (Nat.not_lt_zero _))]
    exact Nat.le_refl _
  | succ M ih =>
    intro P h1 h2
    have a1 := ca_cn_or (P := P) (Q := fun p => P p ∧ f p < M) (R := fun p => P p ∧ f p = M) L (fun p hp z => by
      have := h1 p hp z
      by_cases e : f p = M
      · exact Or.inr ⟨z, e⟩
      · exact Or.inl ⟨z, by omega⟩)
    have a2 := ih (fun p => P p ∧ f p < M) (fun p _ z => z.2) (fun p e hp he z1 z2 => h2 p e hp he z1.1 z2.1)
    have a3 := ca_one (Q := fun p => P p ∧ f p = M) L (fun p e hp he z1 z2 => h2 p e hp he z1.1 z2.1 (by rw [z1.2, z2.2]))
    omega
theorem ca_L_v {A : Nat → Int32} {s j : Nat} (h : ca_L A s) (hj : j < s) : (A j).toNatClampNeg < 4 ∧ A j = nI (A j).toNatClampNeg := by
  obtain ⟨c, hc, e⟩ := h j hj
  rw [e, nI_clamp (by omega)]
  exact ⟨hc, rfl⟩
theorem ca_wo1 {A : Nat → Int32} {s : Nat} (h : ca_L A s) : ca_wo A s 1 ≤ 4 := by
  unfold ca_wo
  refine ca_pig (f := fun p => (A p).toNatClampNeg) 4 _ (fun p hp _ => (ca_L_v h (by omega)).1) (fun p e hp he _ z ef => ?_)
  have a1 := ca_L_v h (j := p) (by omega)
  have a2 := ca_L_v h (j := e) (by omega)
  have hz : ca_S A s p 1 := ⟨by omega, e, he, fun x hx => by
    cases (show x = 0 by omega)
    show A e = A p
    rw [a1.2, a2.2]
    exact congrArg nI ef⟩
  have := (ca_sb_iff (Nat.le_refl 1)).mpr hz
  omega
theorem ca_wo2 {A : Nat → Int32} {s : Nat} (h : ca_L A s) : ca_wo A s 2 ≤ 16 := by
  unfold ca_wo
  refine ca_pig (f := fun p => 4 * (A p).toNatClampNeg + (A (p + 1)).toNatClampNeg) 16 _ (fun p hp _ => ?_) (fun p e hp he _ z ef => ?_)
  · have a1 := ca_L_v h (j := p) (by omega)
    have a2 := ca_L_v h (j := p + 1) (by omega)
    show 4 * (A p).toNatClampNeg + (A (p + 1)).toNatClampNeg < 16
    omega
  · have a1 := ca_L_v h (j := p) (by omega)
    have a2 := ca_L_v h (j := e) (by omega)
    have b1 := ca_L_v h (j := p + 1) (by omega)
    have b2 := ca_L_v h (j := e + 1) (by omega)
    have ef' : 4 * (A e).toNatClampNeg + (A (e + 1)).toNatClampNeg = 4 * (A p).toNatClampNeg + (A (p + 1)).toNatClampNeg := ef
    have hz : ca_S A s p 2 := ⟨by omega, e, he, fun x hx => by
      by_cases e0 : x = 0
      · subst e0
        show A e = A p
        rw [a1.2, a2.2]
        exact congrArg nI (by omega)
      · cases (show x = 1 by omega)
        show A (e + 1) = A (p + 1)
        rw [b1.2, b2.2]
        exact congrArg nI (by omega)⟩
    have := (ca_sb_iff (A := A) (s := s) (k := p) (n := 2) (by omega)).mpr hz
    omega
theorem ca_wo_le (A : Nat → Int32) (s w : Nat) : ca_wo A s w ≤ s + 1 - w := ca_cn_le _ _
/-- the least length with an absent word -/
def ca_AB (A : Nat → Int32) (s n : Nat) : Prop := 1 ≤ n ∧ n ≤ 3 ∧ (∀ w, 1 ≤ w → w < n → ca_wo A s w = 4 ^ w) ∧ ca_wo A s n ≠ 4 ^ n
theorem ca_AB_u {A : Nat → Int32} {s n n' : Nat} (h : ca_AB A s n) (h' : ca_AB A s n') : n' = n := by
  obtain ⟨a, b, c, d⟩ := h
  obtain ⟨a', b', c', d'⟩ := h'
  rcases Nat.lt_trichotomy n' n with z | z | z
  · exact absurd (c n' a' z) d'
  · exact z
  · exact absurd (c' n a z) d
theorem ca_4 {n : Nat} (h : n ≤ 3) (h1 : 1 ≤ n) : (n = 1 ∧ 4 ^ n = 4) ∨ (n = 2 ∧ 4 ^ n = 16) ∨ (n = 3 ∧ 4 ^ n = 64) := by
  rcases (show n = 1 ∨ n = 2 ∨ n = 3 by omega) with e | e | e <;> subst e <;> simp
theorem ca_wo4 {A : Nat → Int32} {s n : Nat} (hs : s ≤ 32) (h : ca_L A s) (h1 : 1 ≤ n) (hn : n ≤ 3) : ca_wo A s n ≤ 4 ^ n ∧ (ca_wo A s n = 4 ^ n → n ≤ 2) := by
  have w1 := ca_wo1 h
  have w2 := ca_wo2 h
  have w3 := ca_wo_le A s 3
  rcases ca_4 hn h1 with ⟨e, e2⟩ | ⟨e, e2⟩ | ⟨e, e2⟩ <;> rw [e2] <;> subst e <;> exact ⟨by omega, fun _ => by omega⟩
section
variable {A B C : Nat → Int32} {s t : Nat} {post : Int32 → Prop}
theorem ca_xsa_lp (hs : s ≤ 32) (hA : ca_L A s) (h : ∀ n, ca_AB A s n → post (nI n)) :
    ∀ d n, 1 ≤ n → n ≤ 3 → n ≤ s + 1 → 4 - n < d → (∀ w, 1 ≤ w → w < n → ca_wo A s w = 4 ^ w) → wX_shortestAbsent_4 post (nI s) (nI t) A B C d (nI (4 ^ n)) (nI n) := by
  intro d
  induction d with
  | zero => intro n _ _ _ h; omega
  | succ d ih =>
    intro n h1 h3 hns hd hl
    have h4 := ca_4 h3 h1
    have hw := ca_wo4 hs hA h1 h3
    have hwl := ca_wo_le A s n
    refine pk_lt s n (fun z => ?_) (fun z => ca_xwo hs h1 (by omega) (pk_le (4 ^ n) (ca_wo A s n) (fun y => ?_) (fun y => h n ⟨h1, h3, hl, by omega⟩)))
    · rw [nI_1, show s + 1 = n by omega]
      exact h n ⟨h1, h3, hl, by omega⟩
    · have e : ca_wo A s n = 4 ^ n := by omega
      have h2 := hw.2 e
      have hr := ih (n + 1) (by omega) (by omega) (by omega) (by omega) (fun w w1 w2 => by
        by_cases ew : w = n
        · rw [ew]; exact e
        · exact hl w w1 (by omega))
      exact nm_r (pk_mul (4 ^ n) 4) (nm_r (nI_1 n) hr)
theorem ca_ysa_lp (hs : s ≤ 32) (hA : ca_L A s) {r : Nat} (hr : ca_AB A s r) (h : post (nI r)) :
    ∀ d n, 1 ≤ n → n ≤ 3 → 4 - n < d → (∀ w, 1 ≤ w → w < n → ca_wo A s w = 4 ^ w) → wY_shortestAbsent_4 post (nI s) (nI t) A B C d (nI n) (nI (4 ^ n)) := by
  intro d
  induction d with
  | zero => intro n _ _ h; omega
  | succ d ih =>
    intro n h1 h3 hd hl
    have h4 := ca_4 h3 h1
    have hw := ca_wo4 hs hA h1 h3
    have hwl := ca_wo_le A s n
    refine pk_le 4 n (fun z => by omega) (fun z => ca_ywo hs h1 (by omega) (pk_eq (ca_wo A s n) (4 ^ n) (fun e => ?_) (fun e => ?_)))
    · have h2 := hw.2 e
      have hg := ih (n + 1) (by omega) (by omega) (by omega) (fun w w1 w2 => by
        by_cases ew : w = n
        · rw [ew]; exact e
        · exact hl w w1 (by omega))
      rw [Nat.pow_succ, Nat.mul_comm] at hg
      exact nm_r (nI_1 n) (nm_r (pk_mul 4 (4 ^ n)) hg)
    · rw [ca_AB_u hr ⟨h1, h3, hl, e⟩]; exact h
theorem ca_xw_lp (hs : s ≤ 32) (h : post (nI (ca_sum (fun p => s - p - ca_sb A s p) s))) :
    ∀ d k, k ≤ s → s - k < d → wX_words_4 post (nI s) (nI t) A B C d (nI (ca_sum (fun p => s - p - ca_sb A s p) k)) (nI k) := by
  intro d
  induction d with
  | zero => intro k _ h; omega
  | succ d ih =>
    intro k hk hd
    refine pk_le s k (fun z => ?_) (fun z => ca_xsb hs hk ?_)
    · cases (show k = s by omega)
      exact h
    · have hb := ca_sb_le (A := A) (s := s) (k := k) hk
      refine nm_r (e' := nI (ca_sum (fun p => s - p - ca_sb A s p) (k + 1))) ?_ (nm_r (nI_1 k) (ih (k + 1) (by omega) (by omega)))
      rw [pk_sub hk, pk_sub (by omega), nI_add]
      rfl
theorem ca_yw_lp (hs : s ≤ 32) (h : post (nI (ca_sum (fun j => ca_wo A s (j + 1)) s))) :
    ∀ d k, k ≤ s → s - k < d → wY_words_4 post (nI s) (nI t) A B C d (nI (ca_sum (fun j => ca_wo A s (j + 1)) k)) (nI (k + 1)) := by
  intro d
  induction d with
  | zero => intro k _ h; omega
  | succ d ih =>
    intro k hk hd
    refine pk_lt s (k + 1) (fun z => ?_) (fun z => ca_ywo hs (by omega) (by omega) ?_)
    · cases (show k = s by omega)
      exact h
    · exact nm_r (e' := nI (ca_sum (fun j => ca_wo A s (j + 1)) (k + 1))) (nI_add _ _) (nm_r (nI_1 (k + 1)) (ih (k + 1) (by omega) (by omega)))
def ca_LR (A : Nat → Int32) (s m : Nat) : Prop := ∀ n, 1 ≤ n → (n ≤ m ↔ ∃ k, k < s ∧ n ≤ ca_sb A s k)
theorem ca_LR_u {m m' : Nat} (h : ca_LR A s m) (h' : ca_LR A s m') : m' = m := by
  have a1 : m ≤ m' := by
    by_cases e : m = 0
    · omega
    · exact (h' m (by omega)).mpr ((h m (by omega)).mp (Nat.le_refl _))
  have a2 : m' ≤ m := by
    by_cases e : m' = 0
    · omega
    · exact (h m' (by omega)).mpr ((h' m' (by omega)).mp (Nat.le_refl _))
  omega
theorem ca_xlr_lp (hs : s ≤ 32) (h : ∀ m, ca_LR A s m → post (nI m)) :
    ∀ d k m, k ≤ s → s - k < d → m ≤ s → (∀ n, 1 ≤ n → (n ≤ m ↔ ∃ k', k' < k ∧ n ≤ ca_sb A s k')) → wX_longestRepeat_4 post (nI s) (nI t) A B C d (nI m) (nI k) := by
  intro d
  induction d with
  | zero => intro k m _ h; omega
  | succ d ih =>
    intro k m hk hd hm hi
    refine pk_le s k (fun z => ?_) (fun z => ca_xsb hs hk ?_)
    · cases (show k = s by omega)
      exact h m hi
    · have hb := ca_sb_le (A := A) (s := s) (k := k) hk
      refine pk_le (ca_sb A s k) m (fun y => nm_r (nI_1 k) (ih (k + 1) m (by omega) (by omega) hm (fun n h1 => ⟨fun w => ?_, fun ⟨k', w1, w2⟩ => ?_⟩))) (fun y => nm_r (nI_1 k) (ih (k + 1) (ca_sb A s k) (by omega) (by omega) (by omega) (fun n h1 => ⟨fun w => ⟨k, by omega, w⟩, fun ⟨k', w1, w2⟩ => ?_⟩)))
      · obtain ⟨k', w1, w2⟩ := (hi n h1).mp w
        exact ⟨k', by omega, w2⟩
      · by_cases e : k' = k
        · rw [e] at w2; omega
        · exact (hi n h1).mpr ⟨k', by omega, w2⟩
      · by_cases e : k' = k
        · rw [e] at w2; exact w2
        · have := (hi n h1).mpr ⟨k', by omega, w2⟩
          omega
theorem ca_wo_lt {n : Nat} (h1 : 1 ≤ n) : ca_wo A s n < s + 1 - n ↔ ∃ k, k < s ∧ n ≤ ca_sb A s k := by
  unfold ca_wo
  rw [ca_cn_lt]
  refine ⟨fun ⟨k, h2, h3⟩ => ⟨k, by omega, by omega⟩, fun ⟨k, h2, h3⟩ => ⟨k, ?_, by omega⟩⟩
  have := ca_sb_le (A := A) (s := s) (k := k) (by omega)
  omega
theorem ca_ylr_lp (hs : s ≤ 32) (h : ∀ m, ca_LR A s m → post (nI m)) :
    ∀ d n m, 1 ≤ n → n ≤ s + 1 → s + 1 - n < d → m ≤ s → (∀ n', 1 ≤ n' → (n' ≤ m ↔ n' < n ∧ ∃ k, k < s ∧ n' ≤ ca_sb A s k)) → wY_longestRepeat_4 post (nI s) (nI t) A B C d (nI m) (nI n) := by
  intro d
  induction d with
  | zero => intro n m _ _ h; omega
  | succ d ih =>
    intro n m h1 hn hd hm hi
    have hwl := ca_wo_le A s n
    refine pk_le s n (fun z => h m (fun n' h1' => (hi n' h1').trans ⟨fun y => y.2, fun ⟨k, y1, y2⟩ => ⟨?_, k, y1, y2⟩⟩)) (fun z => ca_ywo hs h1 (by omega) (pk_le (s - n + 1) (ca_wo A s n) (fun y => nm_r (nI_1 n) (ih (n + 1) m (by omega) (by omega) (by omega) hm (fun n' h1' => (hi n' h1').trans ⟨fun w => ⟨by omega, w.2⟩, fun ⟨w1, w2⟩ => ⟨?_, w2⟩⟩))) (fun y => nm_r (nI_1 n) (ih (n + 1) n (by omega) (by omega) (by omega) (by omega) (fun n' h1' => ⟨fun w => ⟨by omega, ?_⟩, fun w => by omega⟩))) (by rw [pk_sub (by omega), nI_1])))
    · have hb := ca_sb_le (A := A) (s := s) (k := k) (by omega)
      by_cases e : k = 0
      · subst e
        rw [ca_sb_0] at y2
        omega
      · omega
    · by_cases e : n' = n
      · rw [e] at w2
        have := (ca_wo_lt h1).mpr w2
        omega
      · omega
    · obtain ⟨k, w1, w2⟩ := (ca_wo_lt (A := A) (s := s) h1).mp (by omega)
      exact ⟨k, w1, by omega⟩
end
theorem i_vc_words {k : Nat} {u : SX} {v : SY} (I : i_Rel k u v) (hk : k + 3 ≤ 1536) : wpX_words (fun r => wpY_words (fun r' => r' = r ∧ i_Rel (k + 3) u v) v) u := by
  have J := i_up I
  obtain ⟨s, t, A, B, C, D, hs, ht, hA, hB, rfl, rfl⟩ := I
  refine ⟨s + 1, ca_xw_lp hs ?_ (s + 1) 0 (by omega) (by omega)⟩
  refine ⟨s + 1, ca_yw_lp hs ⟨?_, J⟩ (s + 1) 0 (by omega) (by omega)⟩
  rw [ca_words]
theorem i_vc_shortestAbsent {k : Nat} {u : SX} {v : SY} (I : i_Rel k u v) (hk : k + 3 ≤ 1536) : wpX_shortestAbsent (fun r => wpY_shortestAbsent (fun r' => r' = r ∧ i_Rel (k + 3) u v) v) u := by
  have J := i_up I
  obtain ⟨s, t, A, B, C, D, hs, ht, hA, hB, rfl, rfl⟩ := I
  refine ⟨5, ca_xsa_lp hs hA (fun n hn => ?_) 5 1 (by omega) (by omega) (by omega) (by omega) (fun w w1 w2 => by omega)⟩
  exact ⟨5, ca_ysa_lp hs hA hn ⟨rfl, J⟩ 5 1 (by omega) (by omega) (by omega) (fun w w1 w2 => by omega)⟩
theorem i_vc_longestRepeat {k : Nat} {u : SX} {v : SY} (I : i_Rel k u v) (hk : k + 3 ≤ 1536) : wpX_longestRepeat (fun r => wpY_longestRepeat (fun r' => r' = r ∧ i_Rel (k + 3) u v) v) u := by
  have J := i_up I
  obtain ⟨s, t, A, B, C, D, hs, ht, hA, hB, rfl, rfl⟩ := I
  refine ⟨s + 1, ca_xlr_lp hs (fun m hm => ?_) (s + 1) 0 0 (by omega) (by omega) (by omega) (fun n h1 => ⟨fun z => by omega, fun ⟨k', z, _⟩ => by omega⟩)⟩
  refine ⟨s + 2, ca_ylr_lp hs (fun m' hm' => ⟨?_, J⟩) (s + 2) 1 0 (by omega) (by omega) (by omega) (by omega) (fun n h1 => ⟨fun z => by omega, fun z => by omega⟩)⟩
  rw [ca_LR_u hm hm']
end
section
/-! fewest, cheapest: both tables in lockstep -/
section
variable {A B C : Nat → Int32} {s t j : Nat} {x1 x2 : Int32}
theorem ca_in (hs : s ≤ 32) (ht : t ≤ 24) (hj : j ≤ t) : ∀ (d i : Nat) (D : Nat → Int32), i + d = j → (∀ i', i' < j → C i' = D i') →
    ∃ D' : Nat → Int32, (∀ i', i' < j → C i' = D' i') ∧
      (∀ (post : Int32 → SX → Prop) (J9 : Int32 → (Nat → Int32) → (Nat → Int32) → (Nat → Int32) → Prop), J9 (nI (j + 1)) A B (upd C j (D' j)) → wX_leastCost_32 post J9 x1 x2 (nI j) (nI s) (nI t) A B C (d + 1) (D j) (nI i)) ∧
      (∀ (post : Int32 → SY → Prop) (J31 : Int32 → (Nat → Int32) → (Nat → Int32) → (Nat → Int32) → Prop), J31 (nI (j + 1)) A B D' → wY_cheapest_58 post J31 x1 x2 (nI j) (nI s) (nI t) (d + 1) (nI i) A B D) := by
  intro d
  induction d with
  | zero =>
    intro i D hi hag
    have e : nI j ≤ nI i := nI_le (by omega) (by omega)
    refine ⟨D, hag, fun post J9 h => br_t e ⟨pk_in j 25 (by omega), nm_r (e' := upd C j (D j)) (by rw [nI_clamp (by omega)]) (nm_r (nI_1 j) h)⟩, fun post J31 h => br_t e (nm_r (nI_1 j) h)⟩
  | succ d ih =>
    intro i D hi hag
    have e : ¬ nI j ≤ nI i := nI_ge (by omega) (by omega)
    have ci : (nI i).toNatClampNeg = i := nI_clamp (by omega)
    have cj : (nI j).toNatClampNeg = j := nI_clamp (by omega)
    have vi : vp_in (nI i) 25 := pk_in i 25 (by omega)
    have vj : vp_in (nI j) 25 := pk_in j 25 (by omega)
    have e6 : C (nI i).toNatClampNeg + x1 = D i + x1 := by rw [ci, hag i (by omega)]
    obtain ⟨r, hr⟩ := ca_PL_ex (A := A) (B := B) (s := s) (t := t) (i := i) (n := j - i)
    by_cases c1 : D j ≤ D i + x1
    · obtain ⟨D', h1, hX, hY⟩ := ih (i + 1) D (by omega) hag
      exact ⟨D', h1, fun post J9 h => br_f e ⟨vi, nm_r e6 (br_t c1 (nm_r (nI_1 i) (hX post J9 h)))⟩, fun post J31 h => br_f e ⟨vi, vj, br_t (by rw [ci, cj]; exact c1) (nm_r (nI_1 i) (hY post J31 h))⟩⟩
    · by_cases c2 : r = -4
      · obtain ⟨D', h1, hX, hY⟩ := ih (i + 1) D (by omega) hag
        refine ⟨D', h1, fun post J9 h => br_f e ⟨vi, nm_r e6 (br_f c1 (ca_xpl' hs ht (by omega) hj hr (br_t c2 (nm_r (nI_1 i) (hX post J9 h)))))⟩, fun post J31 h => br_f e ⟨vi, vj, br_f (by rw [ci, cj]; exact c1) ?_⟩⟩
        rw [pk_sub (by omega)]
        exact ca_ypl hs ht (by omega) hr (br_t c2 (nm_r (nI_1 i) (hY post J31 h)))
      · obtain ⟨D', h1, hX, hY⟩ := ih (i + 1) (upd D j (D i + x1)) (by omega) (fun i' hi' => by rw [pk_un (by omega)]; exact hag i' hi')
        rw [pk_us] at hX
        refine ⟨D', h1, fun post J9 h => br_f e ⟨vi, nm_r e6 (br_f c1 (ca_xpl' hs ht (by omega) hj hr (br_f c2 (nm_r (nI_1 i) (hX post J9 h)))))⟩, fun post J31 h => br_f e ⟨vi, vj, br_f (by rw [ci, cj]; exact c1) ?_⟩⟩
        rw [pk_sub (by omega)]
        exact ca_ypl hs ht (by omega) hr (br_f c2 ⟨vi, vj, nm_r (e' := upd D j (D i + x1)) (by rw [ci, cj]) (nm_r (nI_1 i) (hY post J31 h))⟩)
theorem ca_out (hs : s ≤ 32) (ht : t ≤ 24) : ∀ (d j : Nat) (C D : Nat → Int32), j + 1 + d = t + 1 → (∀ i', i' < j + 1 → C i' = D i') →
    ∃ (r : Int32) (C' D' : Nat → Int32),
      (∀ post : Int32 → SX → Prop, post r (nI s, nI t, A, B, C') → wX_leastCost_9 post x1 x2 (nI s) (nI t) (d + 1) (nI (j + 1)) A B C) ∧
      (∀ post : Int32 → SY → Prop, post r (nI s, nI t, A, B, D') → wY_cheapest_31 post x1 x2 (nI s) (nI t) (d + 1) (nI (j + 1)) A B D) := by
  intro d
  induction d with
  | zero =>
    intro j C D hj hag
    have e : nI t < nI (j + 1) := nI_lt (by omega) (by omega)
    have ct : (nI t).toNatClampNeg = t := nI_clamp (by omega)
    refine ⟨C t, C, D, fun post h => br_t e ⟨pk_in t 25 (by omega), ?_⟩, fun post h => br_t e ⟨pk_in t 25 (by omega), ?_⟩⟩
    · rw [ct]; exact h
    · rw [ct, ← hag t (by omega)]; exact h
  | succ d ih =>
    intro j C D hj hag
    have e : ¬ nI t < nI (j + 1) := nI_nlt (by omega) (by omega)
    have cj : (nI (j + 1)).toNatClampNeg = j + 1 := nI_clamp (by omega)
    have cp : (nI (j + 1) - 1).toNatClampNeg = j := by rw [nI_pred]; exact nI_clamp (by omega)
    have vj : vp_in (nI (j + 1)) 25 := pk_in (j + 1) 25 (by omega)
    have vp : vp_in (nI (j + 1) - 1) 25 := pk_in j 25 (by omega) (nI_pred j)
    obtain ⟨D1, h1, hX, hY⟩ := ca_in (A := A) (B := B) (C := C) (s := s) (t := t) (j := j + 1) (x1 := x1) (x2 := x2) hs ht (by omega) (j + 1) 0 (upd D (j + 1) (D j + x2)) (by omega) (fun i' hi' => by rw [pk_un (by omega)]; exact hag i' hi')
    rw [pk_us] at hX
    obtain ⟨r, C2, D2, gX, gY⟩ := ih (j + 1) (upd C (j + 1) (D1 (j + 1))) D1 (by omega) (fun i' hi' => by
      by_cases z : i' = j + 1
      · rw [z, pk_us]
      · rw [pk_un z]; exact h1 i' (by omega))
    refine ⟨r, C2, D2, fun post h => br_f e ⟨vp, nm_r (e' := D j + x2) (by rw [cp, hag j (by omega)]) ⟨j + 1 + 1, hX post _ (gX post h)⟩⟩, fun post h => br_f e ⟨vp, vj, nm_r (e' := upd D (j + 1) (D j + x2)) (by rw [cp, cj]) ⟨j + 1 + 1, hY post _ (gY post h)⟩⟩⟩
theorem ca_cost (hs : s ≤ 32) (ht : t ≤ 24) (A B C D : Nat → Int32) (x1 x2 : Int32) :
    ∃ (r : Int32) (C' D' : Nat → Int32),
      (∀ post : Int32 → SX → Prop, post r (nI s, nI t, A, B, C') → wpX_leastCost post (nI s, nI t, A, B, C) x1 x2) ∧
      (∀ post : Int32 → SY → Prop, post r (nI s, nI t, A, B, D') → ∃ n31 : Nat, wY_cheapest_31 post x1 x2 (nI s) (nI t) n31 1 A B (upd D 0 0)) := by
  obtain ⟨r, C', D', hX, hY⟩ := ca_out (A := A) (B := B) (s := s) (t := t) (x1 := x1) (x2 := x2) hs ht t 0 (upd C 0 0) (upd D 0 0) (by omega) (fun i' hi' => by
    cases (show i' = 0 by omega)
    rw [pk_us, pk_us])
  exact ⟨r, C', D', fun post h => nm_e ⟨t + 1, hX post h⟩, fun post h => ⟨t + 1, hY post h⟩⟩
end
theorem ca_xpr {post : Int32 → Prop} {x : Int32} (h0 : x < 0 ∨ (¬ x < 0 ∧ 100 < x) → post 0) (h1 : ¬ x < 0 → ¬ 100 < x → post 1) : wpX_isPrice post x :=
  br_c (fun a => h0 (Or.inl a)) (fun a => br_c (fun b => h0 (Or.inr ⟨a, b⟩)) (fun b => h1 a b))
theorem i_vc_cheapest {k : Nat} {u : SX} {v : SY} (I : i_Rel k u v) (hk : k + 3 ≤ 1536) (v1 : Int32) (v2 : Int32) : wpX_cheapest (fun r u' => wpY_cheapest (fun r' v' => r' = r ∧ i_Rel (k + 3) u' v') v v1 v2) u v1 v2 := by
  have J := i_up I
  obtain ⟨s, t, A, B, C, D, hs, ht, hA, hB, rfl, rfl⟩ := I
  unfold wpX_cheapest
  dsimp only
  refine ca_xpr (fun a => br_t rfl ?_) (fun a1 a2 => br_f ca_10 (ca_xpr (fun b => br_t rfl ?_) (fun b1 b2 => br_f ca_10 ?_)))
  · rcases a with a | ⟨a, b⟩
    · exact br_t a ⟨rfl, J⟩
    · exact br_f a (br_t b ⟨rfl, J⟩)
  · rcases b with b | ⟨b, c⟩
    · exact br_f a1 (br_f a2 (br_t b ⟨rfl, J⟩))
    · exact br_f a1 (br_f a2 (br_f b (br_f (Int32.not_le.mpr c) ⟨rfl, J⟩)))
  · obtain ⟨r, C', D', hX, hY⟩ := ca_cost hs ht A B C D v1 v2
    refine hX _ ?_
    dsimp only
    refine br_f a1 (br_f a2 (br_f b1 (br_t (Int32.not_lt.mp b2) (nm_e (hY _ ⟨rfl, ?_⟩)))))
    exact ⟨s, t, A, B, C', D', hs, ht, hA, hB, rfl, rfl⟩
theorem i_vc_fewest {k : Nat} {u : SX} {v : SY} (I : i_Rel k u v) (hk : k + 3 ≤ 1536) : wpX_fewest (fun r u' => wpY_fewest (fun r' v' => r' = r ∧ i_Rel (k + 3) u' v') v) u := by
  obtain ⟨s, t, A, B, C, D, hs, ht, hA, hB, rfl, rfl⟩ := I
  unfold wpX_fewest wpY_fewest
  dsimp only
  obtain ⟨r, C', D', hX, hY⟩ := ca_cost hs ht A B C D 1 1
  refine hX _ ?_
  dsimp only
  refine br_f (by decide) (br_f (by decide) (br_f (by decide) (br_t (by decide) (nm_e (hY _ ⟨rfl, ?_⟩)))))
  exact ⟨s, t, A, B, C', D', hs, ht, hA, hB, rfl, rfl⟩
end
section
/-! source, target, quote, change, accept, clearSource, clearTarget, lengths, the start -/
theorem ca_let (x : Int32) : (x < 0 ∨ ∃ j, 4 ≤ j ∧ j < 2 ^ 31 ∧ x = nI j) ∨ ∃ c, c < 4 ∧ x = nI c := by
  by_cases h : x < 0
  · exact Or.inl (Or.inl h)
  · obtain ⟨j, hj, e⟩ := nI_of h
    by_cases h4 : j < 4
    · exact Or.inr ⟨j, h4, e⟩
    · exact Or.inl (Or.inr ⟨j, by omega, hj, e⟩)
section
variable {post : Int32 → Prop} {x : Int32} {c : Nat}
theorem ca_xil_b (h : x < 0 ∨ ∃ j, 4 ≤ j ∧ j < 2 ^ 31 ∧ x = nI j) (hp : post 0) : wpX_isLetter post x := by
  rcases h with h | ⟨j, h1, h2, rfl⟩
  · exact br_t h hp
  · exact br_f (nI_pos h2) (pk_le 4 j (fun _ => hp) (fun z => by omega))
theorem ca_xil_g (h : c < 4) (hp : post 1) : wpX_isLetter post (nI c) :=
  br_f (nI_pos (by omega)) (pk_le 4 c (fun z => by omega) (fun _ => hp))
theorem ca_yil_b {v : SY} (h : x < 0 ∨ ∃ j, 4 ≤ j ∧ j < 2 ^ 31 ∧ x = nI j) (hp : post 0) : wpY_isLetter post v x := by
  rcases h with h | ⟨j, h1, h2, rfl⟩
  · exact br_t h hp
  · exact br_f (nI_pos h2) (pk_lt 3 j (fun _ => hp) (fun z => by omega))
theorem ca_yil_g {v : SY} (h : c < 4) (hp : post 1) : wpY_isLetter post v (nI c) :=
  br_f (nI_pos (by omega)) (pk_lt 3 c (fun z => by omega) (fun _ => hp))
theorem ca_L_u {A : Nat → Int32} {n : Nat} (h : ca_L A n) (hc : c < 4) : ca_L (upd A n (nI c)) (n + 1) := by
  intro j hj
  by_cases e : j = n
  · exact ⟨c, hc, by rw [e, pk_us]⟩
  · rw [pk_un e]; exact h j (by omega)
theorem ca_L_w {A : Nat → Int32} {n i : Nat} (h : ca_L A n) (hc : c < 4) : ca_L (upd A i (nI c)) n := by
  intro j hj
  by_cases e : j = i
  · exact ⟨c, hc, by rw [e, pk_us]⟩
  · rw [pk_un e]; exact h j hj
end
theorem i_vc0 : wpX_init (fun u => wpY_init (fun v => i_Rel 0 u v)) :=
  ⟨0, 0, fun _ => 0, fun _ => 0, fun _ => 0, fun _ => 0, by omega, by omega, fun j hj => absurd hj (Nat.not_lt_zero j), fun j hj => absurd hj (Nat.not_lt_zero j), rfl, rfl⟩
theorem i_vc_source {k : Nat} {u : SX} {v : SY} (I : i_Rel k u v) (hk : k + 3 ≤ 1536) (v1 : Int32) : wpX_source (fun r u' => wpY_source (fun r' v' => r' = r ∧ i_Rel (k + 3) u' v') v v1) u v1 := by
  have J := i_up I
  obtain ⟨s, t, A, B, C, D, hs, ht, hA, hB, rfl, rfl⟩ := I
  unfold wpX_source wpY_source
  dsimp only
  rcases ca_let v1 with h | ⟨c, hc, rfl⟩
  · exact ca_xil_b h (br_t rfl (ca_yil_b h (br_t rfl ⟨rfl, J⟩)))
  · refine ca_xil_g hc (br_f ca_10 (pk_lt s 32 (fun e => ⟨pk_in s 32 e, nm_r (e' := upd A s (nI c)) (by rw [nI_clamp (by omega)]) (nm_r (nI_1 s) (ca_yil_g hc (br_f ca_10 (pk_eq s 32 (fun e2 => by omega) (fun e2 => ⟨pk_in s 32 e, nm_r (e' := upd A s (nI c)) (by rw [nI_clamp (by omega)]) (nm_r (nI_1 s) ⟨rfl, ?_⟩)⟩)))))⟩) (fun e => ca_yil_g hc (br_f ca_10 (pk_eq s 32 (fun _ => ⟨rfl, J⟩) (fun e2 => by omega))))))
    exact ⟨s + 1, t, upd A s (nI c), B, C, D, e, ht, ca_L_u hA hc, hB, rfl, rfl⟩
theorem i_vc_target {k : Nat} {u : SX} {v : SY} (I : i_Rel k u v) (hk : k + 3 ≤ 1536) (v1 : Int32) : wpX_target (fun r u' => wpY_target (fun r' v' => r' = r ∧ i_Rel (k + 3) u' v') v v1) u v1 := by
  have J := i_up I
  obtain ⟨s, t, A, B, C, D, hs, ht, hA, hB, rfl, rfl⟩ := I
  unfold wpX_target wpY_target
  dsimp only
  rcases ca_let v1 with h | ⟨c, hc, rfl⟩
  · exact ca_xil_b h (br_t rfl (ca_yil_b h (br_t rfl ⟨rfl, J⟩)))
  · refine ca_xil_g hc (br_f ca_10 (pk_lt t 24 (fun e => ⟨pk_in t 24 e, nm_r (e' := upd B t (nI c)) (by rw [nI_clamp (by omega)]) (nm_r (nI_1 t) (ca_yil_g hc (br_f ca_10 (pk_eq t 24 (fun e2 => by omega) (fun e2 => ⟨pk_in t 24 e, nm_r (e' := upd B t (nI c)) (by rw [nI_clamp (by omega)]) (nm_r (nI_1 t) ⟨rfl, ?_⟩)⟩)))))⟩) (fun e => ca_yil_g hc (br_f ca_10 (pk_eq t 24 (fun _ => ⟨rfl, J⟩) (fun e2 => by omega))))))
    exact ⟨s, t + 1, A, upd B t (nI c), C, D, hs, e, hA, ca_L_u hB hc, rfl, rfl⟩
theorem i_vc_change {k : Nat} {u : SX} {v : SY} (I : i_Rel k u v) (hk : k + 3 ≤ 1536) (v1 : Int32) (v2 : Int32) : wpX_change (fun r u' => wpY_change (fun r' v' => r' = r ∧ i_Rel (k + 3) u' v') v v1 v2) u v1 v2 := by
  have J := i_up I
  obtain ⟨s, t, A, B, C, D, hs, ht, hA, hB, rfl, rfl⟩ := I
  unfold wpX_change wpY_change
  dsimp only
  by_cases h0 : v1 < 0
  · exact br_t h0 (br_t h0 ⟨rfl, J⟩)
  · obtain ⟨i, hi, rfl⟩ := nI_of h0
    by_cases h1 : nI t ≤ nI i
    · exact br_f h0 (br_t h1 (br_f h0 (br_t h1 ⟨rfl, J⟩)))
    · have hit : i < t := by
        apply Nat.lt_of_not_le
        intro z
        exact h1 (nI_le z hi)
      rcases ca_let v2 with h | ⟨c, hc, rfl⟩
      · exact br_f h0 (br_f h1 (ca_xil_b h (br_t rfl (br_f h0 (br_f h1 (ca_yil_b h (br_t rfl ⟨rfl, J⟩)))))))
      · have vi : vp_in (nI i) 24 := pk_in i 24 (by omega)
        refine br_f h0 (br_f h1 (ca_xil_g hc (br_f ca_10 ⟨vi, nm_e ⟨vi, nm_r (e' := upd B i (nI c)) (by rw [nI_clamp hi]) (br_f h0 (br_f h1 (ca_yil_g hc (br_f ca_10 ⟨vi, nm_e ⟨vi, nm_r (e' := upd B i (nI c)) (by rw [nI_clamp hi]) ⟨rfl, ?_⟩⟩⟩))))⟩⟩)))
        exact ⟨s, t, A, upd B i (nI c), C, D, hs, ht, hA, ca_L_w hB hc, rfl, rfl⟩
theorem i_vc_clearSource {k : Nat} {u : SX} {v : SY} (I : i_Rel k u v) (hk : k + 3 ≤ 1536) : wpX_clearSource (fun u' => wpY_clearSource (fun v' => i_Rel (k + 3) u' v') v) u := by
  obtain ⟨s, t, A, B, C, D, hs, ht, hA, hB, rfl, rfl⟩ := I
  exact ⟨0, t, A, B, C, D, by omega, ht, fun j hj => absurd hj (Nat.not_lt_zero j), hB, rfl, rfl⟩
theorem i_vc_clearTarget {k : Nat} {u : SX} {v : SY} (I : i_Rel k u v) (hk : k + 3 ≤ 1536) : wpX_clearTarget (fun u' => wpY_clearTarget (fun v' => i_Rel (k + 3) u' v') v) u := by
  obtain ⟨s, t, A, B, C, D, hs, ht, hA, hB, rfl, rfl⟩ := I
  exact ⟨s, 0, A, B, C, D, hs, by omega, hA, fun j hj => absurd hj (Nat.not_lt_zero j), rfl, rfl⟩
theorem i_vc_lengths {k : Nat} {u : SX} {v : SY} (I : i_Rel k u v) (hk : k + 3 ≤ 1536) : wpX_lengths (fun r => wpY_lengths (fun r' => r' = r ∧ i_Rel (k + 3) u v) v) u := by
  have J := i_up I
  obtain ⟨s, t, A, B, C, D, hs, ht, hA, hB, rfl, rfl⟩ := I
  exact ⟨rfl, J⟩
theorem ca_q {A C D : Nat → Int32} {s t a n : Nat} (hs : s ≤ 32) (ht : t + n ≤ 24) (ha : a + n ≤ s) (hA : ca_L A s) : ∀ (d q : Nat) (B : Nat → Int32), q + d = n → ca_L B (t + q) →
    ∃ B' : Nat → Int32, ca_L B' (t + n) ∧
      (∀ post : Int32 → SX → Prop, post (nI (t + n)) (nI s, nI (t + n), A, B', C) → wX_quote_36 post (nI a) (nI n) (nI s) (nI t) (d + 1) (nI q) A B C) ∧
      (∀ post : Int32 → SY → Prop, post (nI (t + n)) (nI s, nI (t + n), A, B', D) → wY_quote_44 post (nI a) (nI n) (nI s) (d + 1) (nI q) (nI (t + q)) A B D) := by
  intro d
  induction d with
  | zero =>
    intro q B hq hB
    cases (show q = n by omega)
    have e : nI n ≤ nI n := nI_le (Nat.le_refl _) (by omega)
    exact ⟨B, hB, fun post h => br_t e (nm_r (nI_add t n) h), fun post h => br_t e h⟩
  | succ d ih =>
    intro q B hq hB
    have e : ¬ nI n ≤ nI q := nI_ge (by omega) (by omega)
    have va : vp_in (nI a + nI q) 32 := pk_in (a + q) 32 (by omega) (nI_add a q)
    have vt : vp_in (nI t + nI q) 24 := pk_in (t + q) 24 (by omega) (nI_add t q)
    have vt' : vp_in (nI (t + q)) 24 := pk_in (t + q) 24 (by omega)
    obtain ⟨c, hc, ec⟩ := hA (a + q) (by omega)
    have ea : A (nI a + nI q).toNatClampNeg = nI c := by rw [pk_cl (a + q) (nI_add a q)]; exact ec
    have et : (nI t + nI q).toNatClampNeg = t + q := pk_cl (t + q) (nI_add t q)
    have et' : (nI (t + q)).toNatClampNeg = t + q := nI_clamp (by omega)
    obtain ⟨B', h1, hX, hY⟩ := ih (q + 1) (upd B (t + q) (nI c)) (by omega) (ca_L_u hB hc)
    refine ⟨B', h1, fun post h => br_f e ⟨va, vt, nm_r (e' := upd B (t + q) (nI c)) (by rw [ea, et]) (nm_r (nI_1 q) (hX post h))⟩, fun post h => br_f e ⟨va, vt', nm_r (e' := upd B (t + q) (nI c)) (by rw [ea, et']) (nm_r (nI_1 (t + q)) (nm_r (nI_1 q) (hY post h)))⟩⟩
theorem ca_le24 {t n : Nat} {P Q : Prop} (ht : t ≤ 24) (hn : n < 2 ^ 30) (f : t + n ≤ 24 → P) (g : 24 < t + n → Q) : (nI n ≤ 24 - nI t → P) ∧ (¬ nI n ≤ 24 - nI t → Q) :=
  pk_le n (24 - t) (fun z => f (by omega)) (fun z => g (by omega)) rfl (pk_sub (a := 24) ht)
theorem i_vc_quote {k : Nat} {u : SX} {v : SY} (I : i_Rel k u v) (hk : k + 3 ≤ 1536) (v1 : Int32) (v2 : Int32) : wpX_quote (fun r u' => wpY_quote (fun r' v' => r' = r ∧ i_Rel (k + 3) u' v') v v1 v2) u v1 v2 := by
  have J := i_up I
  obtain ⟨s, t, A, B, C, D, hs, ht, hA, hB, rfl, rfl⟩ := I
  by_cases h1 : v1 < 0
  · exact br_t h1 (br_t h1 ⟨rfl, J⟩)
  · by_cases h2 : v2 < 0
    · exact br_f h1 (br_t h2 (br_f h1 (br_t h2 ⟨rfl, J⟩)))
    · obtain ⟨a, ha, rfl⟩ := nI_of h1
      obtain ⟨n, hn, rfl⟩ := nI_of h2
      by_cases hsa : s < a
      · have hlt := ca_sneg hs ha hsa
        have h3 : ¬ nI n ≤ nI s - nI a := fun z => h2 (Int32.lt_of_le_of_lt z hlt)
        exact br_f h1 (br_f h2 (br_f h3 (br_f h1 (br_f h2 (br_t (nI_lt hsa ha) ⟨rfl, J⟩)))))
      · have h3 : ¬ nI s < nI a := nI_nlt (by omega) (by omega)
        by_cases hna : n ≤ s - a
        · have h4 : nI n ≤ nI s - nI a := by rw [pk_sub (by omega)]; exact nI_le hna (by omega)
          refine br_f h1 (br_f h2 (br_t h4 (ca_le24 ht (by omega) (fun z => ?_) (fun z => ?_))))
          · obtain ⟨B', g1, hX, hY⟩ := ca_q (A := A) (C := C) (D := D) (s := s) (t := t) (a := a) (n := n) hs z (by omega) hA n 0 B (by omega) hB
            refine ⟨n + 1, hX _ (br_f h1 (br_f h2 (br_f h3 (br_t h4 (pk_le (t + n) 24 (fun _ => ⟨n + 1, hY _ ⟨rfl, ?_⟩⟩) (fun w => by omega) (nI_add t n))))))⟩
            exact ⟨s, t + n, A, B', C, D, hs, z, hA, g1, rfl, rfl⟩
          · exact br_f h1 (br_f h2 (br_f h3 (br_t h4 (pk_le (t + n) 24 (fun w => by omega) (fun _ => ⟨rfl, J⟩) (nI_add t n)))))
        · have h4 : ¬ nI n ≤ nI s - nI a := by rw [pk_sub (by omega)]; exact nI_ge (by omega) hn
          exact br_f h1 (br_f h2 (br_f h4 (br_f h1 (br_f h2 (br_f h3 (br_f h4 ⟨rfl, J⟩))))))
theorem ca_a {B C D : Nat → Int32} {s t : Nat} (hs : s + t ≤ 32) (ht : t ≤ 24) (hB : ca_L B t) : ∀ (d q : Nat) (A : Nat → Int32), q + d = t → ca_L A (s + q) →
    ∃ A' : Nat → Int32, ca_L A' (s + t) ∧
      (∀ post : Int32 → SX → Prop, post (nI (s + t)) (nI (s + t), 0, A', B, C) → wX_accept_19 post (nI s) (nI t) (d + 1) (nI q) A B C) ∧
      (∀ post : Int32 → SY → Prop, post (nI (s + t)) (nI (s + t), 0, A', B, D) → wY_accept_19 post (nI t) (d + 1) (nI q) (nI (s + q)) A B D) := by
  intro d
  induction d with
  | zero =>
    intro q A hq hA
    cases (show q = t by omega)
    have e : nI t ≤ nI t := nI_le (Nat.le_refl _) (by omega)
    exact ⟨A, hA, fun post h => br_t e (nm_r (nI_add s t) h), fun post h => br_t e h⟩
  | succ d ih =>
    intro q A hq hA
    have e : ¬ nI t ≤ nI q := nI_ge (by omega) (by omega)
    have va : vp_in (nI q) 24 := pk_in q 24 (by omega)
    have vt : vp_in (nI s + nI q) 32 := pk_in (s + q) 32 (by omega) (nI_add s q)
    have vt' : vp_in (nI (s + q)) 32 := pk_in (s + q) 32 (by omega)
    obtain ⟨c, hc, ec⟩ := hB q (by omega)
    have ea : B (nI q).toNatClampNeg = nI c := by rw [nI_clamp (by omega)]; exact ec
    have et : (nI s + nI q).toNatClampNeg = s + q := pk_cl (s + q) (nI_add s q)
    have et' : (nI (s + q)).toNatClampNeg = s + q := nI_clamp (by omega)
    obtain ⟨A', h1, hX, hY⟩ := ih (q + 1) (upd A (s + q) (nI c)) (by omega) (ca_L_u hA hc)
    refine ⟨A', h1, fun post h => br_f e ⟨va, vt, nm_r (e' := upd A (s + q) (nI c)) (by rw [ea, et]) (nm_r (nI_1 q) (hX post h))⟩, fun post h => br_f e ⟨va, vt', nm_r (e' := upd A (s + q) (nI c)) (by rw [ea, et']) (nm_r (nI_1 (s + q)) (nm_r (nI_1 q) (hY post h)))⟩⟩
theorem i_vc_accept {k : Nat} {u : SX} {v : SY} (I : i_Rel k u v) (hk : k + 3 ≤ 1536) : wpX_accept (fun r u' => wpY_accept (fun r' v' => r' = r ∧ i_Rel (k + 3) u' v') v) u := by
  have J := i_up I
  obtain ⟨s, t, A, B, C, D, hs, ht, hA, hB, rfl, rfl⟩ := I
  refine pk_le t (32 - s) (fun z => ?_) (fun z => ?_) rfl (pk_sub (a := 32) hs)
  · obtain ⟨A', g1, hX, hY⟩ := ca_a (B := B) (C := C) (D := D) (s := s) (t := t) (by omega) ht hB t 0 A (by omega) hA
    refine ⟨t + 1, hX _ (pk_le (s + t) 32 (fun _ => ⟨t + 1, hY _ ⟨rfl, ?_⟩⟩) (fun w => by omega) (nI_add s t))⟩
    exact ⟨s + t, 0, A', B, C, D, by omega, by omega, g1, fun j hj => absurd hj (Nat.not_lt_zero j), rfl, rfl⟩
  · exact pk_le (s + t) 32 (fun w => by omega) (fun _ => ⟨rfl, J⟩) (nI_add s t)
end
