/-! the pure pictures: where a stretch occurs, the greatest length, what was seen before -/
def ca_O (A B : Nat → Int32) (s t k i n : Nat) : Prop := k + n ≤ s ∧ i + n ≤ t ∧ ∀ x, x < n → A (k + x) = B (i + x)
def ca_S (A : Nat → Int32) (s k n : Nat) : Prop := k + n ≤ s ∧ ∃ e, e < k ∧ ∀ x, x < n → A (e + x) = A (k + x)
noncomputable def ca_gr (P : Nat → Prop) : Nat → Nat
  | 0 => 0
  | n + 1 => @ite Nat (P (n + 1)) (Classical.propDecidable _) (n + 1) (ca_gr P n)
theorem ca_gr_t {P : Nat → Prop} {n : Nat} (h : P (n + 1)) : ca_gr P (n + 1) = n + 1 := by
  rw [ca_gr]; exact if_pos h
theorem ca_gr_f {P : Nat → Prop} {n : Nat} (h : ¬ P (n + 1)) : ca_gr P (n + 1) = ca_gr P n := by
  rw [ca_gr]; exact if_neg h
theorem ca_gr_le (P : Nat → Prop) : ∀ N, ca_gr P N ≤ N := by
  intro N
  induction N with
  | zero => exact Nat.le_refl _
  | succ n ih =>
    by_cases h : P (n + 1)
    · rw [ca_gr_t h]; exact Nat.le_refl _
    · rw [ca_gr_f h]; omega
theorem ca_down {P : Nat → Prop} (hd : ∀ n, P (n + 2) → P (n + 1)) : ∀ d n, 1 ≤ n → P (n + d) → P n := by
  intro d
  induction d with
  | zero => intro n _ h; exact h
  | succ d ih =>
    intro n h1 h
    refine ih n h1 ?_
    have h2 := hd (n - 1 + d) (by rw [show n - 1 + d + 2 = n + (d + 1) by omega]; exact h)
    rw [show n - 1 + d + 1 = n + d by omega] at h2
    exact h2
theorem ca_gr_iff {P : Nat → Prop} (hd : ∀ n, P (n + 2) → P (n + 1)) : ∀ N n, 1 ≤ n → n ≤ N → (n ≤ ca_gr P N ↔ P n) := by
  intro N
  induction N with
  | zero => intro n h1 h2; omega
  | succ N ih =>
    intro n h1 h2
    by_cases h : P (N + 1)
    · rw [ca_gr_t h]
      refine ⟨fun _ => ca_down hd (N + 1 - n) n h1 ?_, fun _ => h2⟩
      rw [show n + (N + 1 - n) = N + 1 by omega]
      exact h
    · rw [ca_gr_f h]
      by_cases e : n = N + 1
      · subst e
        have := ca_gr_le P N
        exact ⟨fun z => by omega, fun z => absurd z h⟩
      · exact ih n h1 (by omega)
theorem ca_gr_eq {P : Nat → Prop} (hd : ∀ n, P (n + 2) → P (n + 1)) {N m : Nat} (hN : ∀ n, P n → n ≤ N) (hm : ∀ n, 1 ≤ n → (n ≤ m ↔ P n)) : m = ca_gr P N := by
  have h1 : m ≤ ca_gr P N := by
    by_cases e : m = 0
    · omega
    · have hp : P m := (hm m (by omega)).mp (Nat.le_refl _)
      exact (ca_gr_iff hd N m (by omega) (hN m hp)).mpr hp
  have h2 : ca_gr P N ≤ m := by
    by_cases e : ca_gr P N = 0
    · omega
    · exact (hm _ (by omega)).mpr ((ca_gr_iff hd N _ (by omega) (ca_gr_le P N)).mp (Nat.le_refl _))
  omega
theorem ca_gr_iff' {P : Nat → Prop} (hd : ∀ n, P (n + 2) → P (n + 1)) {N : Nat} (hN : ∀ n, P n → n ≤ N) {n : Nat} (h1 : 1 ≤ n) : n ≤ ca_gr P N ↔ P n := by
  by_cases h : n ≤ N
  · exact ca_gr_iff hd N n h1 h
  · have := ca_gr_le P N
    exact ⟨fun z => by omega, fun z => absurd (hN n z) h⟩
section
variable {A B : Nat → Int32} {s t k i n m : Nat}
theorem ca_O_le (h : ca_O A B s t k i n) {n' : Nat} (hn : n' ≤ n) : ca_O A B s t k i n' :=
  ⟨by have := h.1; omega, by have := h.2.1; omega, fun x hx => h.2.2 x (by omega)⟩
theorem ca_S_le (h : ca_S A s k n) {n' : Nat} (hn : n' ≤ n) : ca_S A s k n' := by
  obtain ⟨h1, e, h2, h3⟩ := h
  exact ⟨by omega, e, h2, fun x hx => h3 x (by omega)⟩
noncomputable def ca_lf (A B : Nat → Int32) (s t i : Nat) : Nat := ca_gr (fun n => ∃ k, ca_O A B s t k i n) t
noncomputable def ca_sb (A : Nat → Int32) (s k : Nat) : Nat := ca_gr (ca_S A s k) s
theorem ca_lf_iff (h1 : 1 ≤ n) : n ≤ ca_lf A B s t i ↔ ∃ k, ca_O A B s t k i n :=
  ca_gr_iff' (P := fun n => ∃ k, ca_O A B s t k i n) (fun _ h => h.elim fun k h => ⟨k, ca_O_le h (by omega)⟩) (fun n h => h.elim fun k h => by have := h.2.1; omega) h1
theorem ca_lf_eq (hm : ∀ n, 1 ≤ n → (n ≤ m ↔ ∃ k, ca_O A B s t k i n)) : m = ca_lf A B s t i :=
  ca_gr_eq (P := fun n => ∃ k, ca_O A B s t k i n) (fun _ h => h.elim fun k h => ⟨k, ca_O_le h (by omega)⟩) (fun n h => h.elim fun k h => by have := h.2.1; omega) hm
theorem ca_lf_le (hi : i ≤ t) : i + ca_lf A B s t i ≤ t := by
  by_cases e : ca_lf A B s t i = 0
  · omega
  · obtain ⟨k, h⟩ := (ca_lf_iff (A := A) (B := B) (s := s) (t := t) (i := i) (n := ca_lf A B s t i) (by omega)).mp (Nat.le_refl _)
    exact h.2.1
theorem ca_sb_iff (h1 : 1 ≤ n) : n ≤ ca_sb A s k ↔ ca_S A s k n :=
  ca_gr_iff' (P := ca_S A s k) (fun _ h => ca_S_le h (by omega)) (fun n h => by have := h.1; omega) h1
theorem ca_sb_eq (hm : ∀ n, 1 ≤ n → (n ≤ m ↔ ca_S A s k n)) : m = ca_sb A s k :=
  ca_gr_eq (P := ca_S A s k) (fun _ h => ca_S_le h (by omega)) (fun n h => by have := h.1; omega) hm
theorem ca_sb_le (hk : k ≤ s) : k + ca_sb A s k ≤ s := by
  by_cases e : ca_sb A s k = 0
  · omega
  · exact ((ca_sb_iff (A := A) (s := s) (k := k) (n := ca_sb A s k) (by omega)).mp (Nat.le_refl _)).1
theorem ca_sb_0 : ca_sb A s 0 = 0 := by
  by_cases e : ca_sb A s 0 = 0
  · exact e
  · obtain ⟨_, e, h, _⟩ := (ca_sb_iff (A := A) (s := s) (k := 0) (n := ca_sb A s 0) (by omega)).mp (Nat.le_refl _)
    omega
def ca_PL (A B : Nat → Int32) (s t i n : Nat) (r : Int32) : Prop :=
  (∃ k, r = nI k ∧ ca_O A B s t k i n ∧ ∀ j, j < k → ¬ ca_O A B s t j i n) ∨ (r = -4 ∧ ∀ k, ¬ ca_O A B s t k i n)
theorem ca_PL_ex : ∃ r, ca_PL A B s t i n r := by
  by_cases h : ∃ k, ca_O A B s t k i n
  · obtain ⟨k, hk, hl⟩ := pk_least _ h
    exact ⟨nI k, Or.inl ⟨k, rfl, hk, hl⟩⟩
  · exact ⟨-4, Or.inr ⟨rfl, fun k hk => h ⟨k, hk⟩⟩⟩
theorem ca_PL_k {r : Int32} (h : ca_PL A B s t i n r) (hk : ca_O A B s t k i n) (hl : ∀ j, j < k → ¬ ca_O A B s t j i n) : r = nI k := by
  rcases h with ⟨k', e, h1, h2⟩ | ⟨_, h⟩
  · have : k' = k := by
      rcases Nat.lt_trichotomy k' k with h | h | h
      · exact absurd h1 (hl k' h)
      · exact h
      · exact absurd hk (h2 k h)
    rw [e, this]
  · exact absurd hk (h k)
theorem ca_PL_n {r : Int32} (h : ca_PL A B s t i n r) (hn : ∀ k, ¬ ca_O A B s t k i n) : r = -4 := by
  rcases h with ⟨k', _, h1, _⟩ | ⟨e, _⟩
  · exact absurd h1 (hn k')
  · exact e
end
