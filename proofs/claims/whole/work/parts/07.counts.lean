/-! counting twice, the pigeonhole; words, shortestAbsent, longestRepeat -/
def ca_sum (f : Nat → Nat) : Nat → Nat
  | 0 => 0
  | n + 1 => ca_sum f n + f n
theorem ca_sum_c {f g : Nat → Nat} : ∀ n, (∀ j, j < n → f j = g j) → ca_sum f n = ca_sum g n := by
  intro n
  induction n with
  | zero => intro _; rfl
  | succ n ih =>
    intro h
    show ca_sum f n + f n = ca_sum g n + g n
    rw [ih (fun j hj => h j (by omega)), h n (by omega)]
theorem ca_cn_c {P Q : Nat → Prop} : ∀ n, (∀ j, j < n → (P j ↔ Q j)) → ca_cn P n = ca_cn Q n := by
  intro n
  induction n with
  | zero => intro _; rfl
  | succ n ih =>
    intro h
    have e := ih (fun j hj => h j (by omega))
    by_cases hp : P n
    · rw [ca_cn_t hp, ca_cn_t ((h n (by omega)).mp hp), e]
    · rw [ca_cn_f hp, ca_cn_f (fun z => hp ((h n (by omega)).mpr z)), e]
theorem ca_cn_0 {P : Nat → Prop} : ∀ n, (∀ j, j < n → ¬ P j) → ca_cn P n = 0 := by
  intro n
  induction n with
  | zero => intro _; rfl
  | succ n ih => intro h; rw [ca_cn_f (h n (by omega)), ih (fun j hj => h j (by omega))]
theorem ca_cn_all {P : Nat → Prop} : ∀ n, (∀ j, j < n → P j) → ca_cn P n = n := by
  intro n
  induction n with
  | zero => intro _; rfl
  | succ n ih => intro h; rw [ca_cn_t (h n (by omega)), ih (fun j hj => h j (by omega))]
theorem ca_cn_lt {P : Nat → Prop} : ∀ n, ca_cn P n < n ↔ ∃ j, j < n ∧ ¬ P j := by
  intro n
  induction n with
  | zero => exact ⟨fun h => absurd h (Nat.not_lt_zero _), fun ⟨j, h, _⟩ => absurd h (Nat.not_lt_zero _)⟩
  | succ n ih =>
    have hle := ca_cn_le P n
    by_cases hp : P n
    · rw [ca_cn_t hp]
      refine ⟨fun h => ?_, fun ⟨j, h1, h2⟩ => ?_⟩
      · obtain ⟨j, h1, h2⟩ := ih.mp (by omega)
        exact ⟨j, by omega, h2⟩
      · have : j ≠ n := fun e => h2 (by rw [e]; exact hp)
        have := ih.mpr ⟨j, by omega, h2⟩
        omega
    · rw [ca_cn_f hp]
      exact ⟨fun _ => ⟨n, by omega, hp⟩, fun _ => by omega⟩
theorem ca_cn_cut {P : Nat → Prop} {M : Nat} : ∀ N, M ≤ N → ca_cn P M = ca_cn (fun p => P p ∧ p < M) N := by
  intro N
  induction N with
  | zero => intro h; cases (show M = 0 by omega); rfl
  | succ N ih =>
    intro h
    by_cases e : M = N + 1
    · subst e
      exact ca_cn_c _ (fun j hj => ⟨fun z => ⟨z, hj⟩, fun z => z.1⟩)
    · rw [ca_cn_f (P := fun p => P p ∧ p < M) (n := N) (fun z => by have := z.2; omega)]
      exact ih (by omega)
theorem ca_cn_iv {a b : Nat} : ∀ N, ca_cn (fun j => a ≤ j ∧ j < b) N = (if N ≤ b then N else b) - a := by
  intro N
  induction N with
  | zero =>
    show 0 = _
    split <;> omega
  | succ N ih =>
    by_cases h : a ≤ N ∧ N < b
    · rw [ca_cn_t (P := fun j => a ≤ j ∧ j < b) h, ih]
      rw [if_pos (by omega), if_pos (by omega)]
      omega
    · rw [ca_cn_f (P := fun j => a ≤ j ∧ j < b) h, ih]
      split <;> split <;> omega
theorem ca_sum_cn {f : Nat → Nat} {P : Nat → Prop} : ∀ M g, (∀ j, j < M → (P j → g j = f j + 1) ∧ (¬ P j → g j = f j)) → ca_sum g M = ca_sum f M + ca_cn P M := by
  intro M
  induction M with
  | zero => intro g _; rfl
  | succ M ih =>
    intro g h
    have e := ih g (fun j hj => h j (by omega))
    have hM := h M (by omega)
    show ca_sum g M + g M = ca_sum f M + f M + ca_cn P (M + 1)
    by_cases hp : P M
    · rw [ca_cn_t hp, e, hM.1 hp]; omega
    · rw [ca_cn_f hp, e, hM.2 hp]; omega
theorem ca_sum_0 : ∀ M, ca_sum (fun _ => 0) M = 0 := by
  intro M
  induction M with
  | zero => rfl
  | succ M ih => show ca_sum (fun _ => 0) M + 0 = 0; rw [ih]
theorem ca_fub (R : Nat → Nat → Prop) (M : Nat) : ∀ N, ca_sum (fun j => ca_cn (fun p => R p j) N) M = ca_sum (fun p => ca_cn (fun j => R p j) M) N := by
  intro N
  induction N with
  | zero => exact ca_sum_0 M
  | succ N ih =>
    show _ = ca_sum (fun p => ca_cn (fun j => R p j) M) N + ca_cn (fun j => R N j) M
    rw [← ih]
    exact ca_sum_cn M _ (fun j _ => ⟨fun h => ca_cn_t (P := fun p => R p j) h, fun h => ca_cn_f (P := fun p => R p j) h⟩)
theorem ca_words (A : Nat → Int32) (s : Nat) : ca_sum (fun p => s - p - ca_sb A s p) s = ca_sum (fun j => ca_wo A s (j + 1)) s := by
  have e1 : ca_sum (fun j => ca_wo A s (j + 1)) s = ca_sum (fun j => ca_cn (fun p => ca_sb A s p < j + 1 ∧ p < s + 1 - (j + 1)) s) s :=
    ca_sum_c s (fun j hj => ca_cn_cut (P := fun p => ca_sb A s p < j + 1) s (by omega))
  rw [e1, ca_fub (fun p j => ca_sb A s p < j + 1 ∧ p < s + 1 - (j + 1)) s s]
  refine ca_sum_c s (fun p hp => ?_)
  have e2 : ca_cn (fun j => ca_sb A s p < j + 1 ∧ p < s + 1 - (j + 1)) s = ca_cn (fun j => ca_sb A s p ≤ j ∧ j < s - p) s :=
    ca_cn_c s (fun j hj => ⟨fun z => ⟨by omega, by omega⟩, fun z => ⟨by omega, by omega⟩⟩)
  rw [e2, ca_cn_iv]
  by_cases h0 : p = 0
  · subst h0
    rw [if_pos (by omega)]; omega
  · rw [if_neg (by omega)]
theorem ca_cn_or {P Q R : Nat → Prop} : ∀ L, (∀ p, p < L → P p → Q p ∨ R p) → ca_cn P L ≤ ca_cn Q L + ca_cn R L := by
  intro L
  induction L with
  | zero => intro _; exact Nat.le_refl _
  | succ L ih =>
    intro h
    have e := ih (fun p hp => h p (by omega))
    have hq : ca_cn Q L ≤ ca_cn Q (L + 1) := by
      by_cases z : Q L
      · rw [ca_cn_t z]; omega
      · rw [ca_cn_f z]; omega
    have hr : ca_cn R L ≤ ca_cn R (L + 1) := by
      by_cases z : R L
      · rw [ca_cn_t z]; omega
      · rw [ca_cn_f z]; omega
    by_cases hp : P L
    · rw [ca_cn_t hp]
      rcases h L (by omega) hp with z | z
      · rw [ca_cn_t z]; omega
      · rw [ca_cn_t z]; omega
    · rw [ca_cn_f hp]; omega
theorem ca_one {Q : Nat → Prop} : ∀ L, (∀ p e, p < L → e < p → Q e → Q p → False) → ca_cn Q L ≤ 1 := by
  intro L
  induction L with
  | zero => intro _; exact Nat.zero_le _
  | succ L ih =>
    intro h
    by_cases hq : Q L
    · rw [ca_cn_t hq, ca_cn_0 L (fun e he z => h L e (by omega) he z hq)]
      omega
    · rw [ca_cn_f hq]
      exact ih (fun p e hp => h p e (by omega))
theorem ca_pig {f : Nat → Nat} {L : Nat} : ∀ M (P : Nat → Prop), (∀ p, p < L → P p → f p < M) → (∀ p e, p < L → e < p → P e → P p → f e ≠ f p) → ca_cn P L ≤ M := by
  intro M
  induction M with
  | zero =>
    intro P h1 _
    rw [ca_cn_0 L (fun p hp z => absurd (h1 p hp z) (Nat.not_lt_zero _))]
    exact Nat.le_refl _
  | succ M ih =>
    intro P h1 h2
    have a1 := ca_cn_or (P := P) (Q := fun p => P p ∧ f p < M) (R := fun p => P p ∧ f p = M) L (fun p hp z => by
      have := h1 p hp z
      by_cases e : f p = M
      · exact Or.inr ⟨z, e⟩
      · exact Or.inl ⟨z, by omega⟩)
    have a2 := ih (fun p => P p ∧ f p < M) (fun p _ z => z.2) (fun p e hp he z1 z2 => h2 p e hp he z1.1 z2.1)
    have a3 := ca_one (Q := fun p => P p ∧ f p = M) L (fun p e hp he z1 z2 => h2 p e hp he z1.1 z2.1 (by rw [z1.2, z2.2]))
    omega
theorem ca_L_v {A : Nat → Int32} {s j : Nat} (h : ca_L A s) (hj : j < s) : (A j).toNatClampNeg < 4 ∧ A j = nI (A j).toNatClampNeg := by
  obtain ⟨c, hc, e⟩ := h j hj
  rw [e, nI_clamp (by omega)]
  exact ⟨hc, rfl⟩
theorem ca_wo1 {A : Nat → Int32} {s : Nat} (h : ca_L A s) : ca_wo A s 1 ≤ 4 := by
  unfold ca_wo
  refine ca_pig (f := fun p => (A p).toNatClampNeg) 4 _ (fun p hp _ => (ca_L_v h (by omega)).1) (fun p e hp he _ z ef => ?_)
  have a1 := ca_L_v h (j := p) (by omega)
  have a2 := ca_L_v h (j := e) (by omega)
  have hz : ca_S A s p 1 := ⟨by omega, e, he, fun x hx => by
    cases (show x = 0 by omega)
    show A e = A p
    rw [a1.2, a2.2]
    exact congrArg nI ef⟩
  have := (ca_sb_iff (Nat.le_refl 1)).mpr hz
  omega
theorem ca_wo2 {A : Nat → Int32} {s : Nat} (h : ca_L A s) : ca_wo A s 2 ≤ 16 := by
  unfold ca_wo
  refine ca_pig (f := fun p => 4 * (A p).toNatClampNeg + (A (p + 1)).toNatClampNeg) 16 _ (fun p hp _ => ?_) (fun p e hp he _ z ef => ?_)
  · have a1 := ca_L_v h (j := p) (by omega)
    have a2 := ca_L_v h (j := p + 1) (by omega)
    show 4 * (A p).toNatClampNeg + (A (p + 1)).toNatClampNeg < 16
    omega
  · have a1 := ca_L_v h (j := p) (by omega)
    have a2 := ca_L_v h (j := e) (by omega)
    have b1 := ca_L_v h (j := p + 1) (by omega)
    have b2 := ca_L_v h (j := e + 1) (by omega)
    have ef' : 4 * (A e).toNatClampNeg + (A (e + 1)).toNatClampNeg = 4 * (A p).toNatClampNeg + (A (p + 1)).toNatClampNeg := ef
    have hz : ca_S A s p 2 := ⟨by omega, e, he, fun x hx => by
      by_cases e0 : x = 0
      · subst e0
        show A e = A p
        rw [a1.2, a2.2]
        exact congrArg nI (by omega)
      · cases (show x = 1 by omega)
        show A (e + 1) = A (p + 1)
        rw [b1.2, b2.2]
        exact congrArg nI (by omega)⟩
    have := (ca_sb_iff (A := A) (s := s) (k := p) (n := 2) (by omega)).mpr hz
    omega
theorem ca_wo_le (A : Nat → Int32) (s w : Nat) : ca_wo A s w ≤ s + 1 - w := ca_cn_le _ _
/-- the least length with an absent word -/
def ca_AB (A : Nat → Int32) (s n : Nat) : Prop := 1 ≤ n ∧ n ≤ 3 ∧ (∀ w, 1 ≤ w → w < n → ca_wo A s w = 4 ^ w) ∧ ca_wo A s n ≠ 4 ^ n
theorem ca_AB_u {A : Nat → Int32} {s n n' : Nat} (h : ca_AB A s n) (h' : ca_AB A s n') : n' = n := by
  obtain ⟨a, b, c, d⟩ := h
  obtain ⟨a', b', c', d'⟩ := h'
  rcases Nat.lt_trichotomy n' n with z | z | z
  · exact absurd (c n' a' z) d'
  · exact z
  · exact absurd (c' n a z) d
theorem ca_4 {n : Nat} (h : n ≤ 3) (h1 : 1 ≤ n) : (n = 1 ∧ 4 ^ n = 4) ∨ (n = 2 ∧ 4 ^ n = 16) ∨ (n = 3 ∧ 4 ^ n = 64) := by
  rcases (show n = 1 ∨ n = 2 ∨ n = 3 by omega) with e | e | e <;> subst e <;> simp
theorem ca_wo4 {A : Nat → Int32} {s n : Nat} (hs : s ≤ 32) (h : ca_L A s) (h1 : 1 ≤ n) (hn : n ≤ 3) : ca_wo A s n ≤ 4 ^ n ∧ (ca_wo A s n = 4 ^ n → n ≤ 2) := by
  have w1 := ca_wo1 h
  have w2 := ca_wo2 h
  have w3 := ca_wo_le A s 3
  rcases ca_4 hn h1 with ⟨e, e2⟩ | ⟨e, e2⟩ | ⟨e, e2⟩ <;> rw [e2] <;> subst e <;> exact ⟨by omega, fun _ => by omega⟩
section
variable {A B C : Nat → Int32} {s t : Nat} {post : Int32 → Prop}
theorem ca_xsa_lp (hs : s ≤ 32) (hA : ca_L A s) (h : ∀ n, ca_AB A s n → post (nI n)) :
    ∀ d n, 1 ≤ n → n ≤ 3 → n ≤ s + 1 → 4 - n < d → (∀ w, 1 ≤ w → w < n → ca_wo A s w = 4 ^ w) → wX_shortestAbsent_4 post (nI s) (nI t) A B C d (nI (4 ^ n)) (nI n) := by
  intro d
  induction d with
  | zero => intro n _ _ _ h; omega
  | succ d ih =>
    intro n h1 h3 hns hd hl
    have h4 := ca_4 h3 h1
    have hw := ca_wo4 hs hA h1 h3
    have hwl := ca_wo_le A s n
    refine pk_lt s n (fun z => ?_) (fun z => ca_xwo hs h1 (by omega) (pk_le (4 ^ n) (ca_wo A s n) (fun y => ?_) (fun y => h n ⟨h1, h3, hl, by omega⟩)))
    · rw [nI_1, show s + 1 = n by omega]
      exact h n ⟨h1, h3, hl, by omega⟩
    · have e : ca_wo A s n = 4 ^ n := by omega
      have h2 := hw.2 e
      have hr := ih (n + 1) (by omega) (by omega) (by omega) (by omega) (fun w w1 w2 => by
        by_cases ew : w = n
        · rw [ew]; exact e
        · exact hl w w1 (by omega))
      exact nm_r (pk_mul (4 ^ n) 4) (nm_r (nI_1 n) hr)
theorem ca_ysa_lp (hs : s ≤ 32) (hA : ca_L A s) {r : Nat} (hr : ca_AB A s r) (h : post (nI r)) :
    ∀ d n, 1 ≤ n → n ≤ 3 → 4 - n < d → (∀ w, 1 ≤ w → w < n → ca_wo A s w = 4 ^ w) → wY_shortestAbsent_4 post (nI s) (nI t) A B C d (nI n) (nI (4 ^ n)) := by
  intro d
  induction d with
  | zero => intro n _ _ h; omega
  | succ d ih =>
    intro n h1 h3 hd hl
    have h4 := ca_4 h3 h1
    have hw := ca_wo4 hs hA h1 h3
    have hwl := ca_wo_le A s n
    refine pk_le 4 n (fun z => by omega) (fun z => ca_ywo hs h1 (by omega) (pk_eq (ca_wo A s n) (4 ^ n) (fun e => ?_) (fun e => ?_)))
    · have h2 := hw.2 e
      have hg := ih (n + 1) (by omega) (by omega) (by omega) (fun w w1 w2 => by
        by_cases ew : w = n
        · rw [ew]; exact e
        · exact hl w w1 (by omega))
      rw [Nat.pow_succ, Nat.mul_comm] at hg
      exact nm_r (nI_1 n) (nm_r (pk_mul 4 (4 ^ n)) hg)
    · rw [ca_AB_u hr ⟨h1, h3, hl, e⟩]; exact h
theorem ca_xw_lp (hs : s ≤ 32) (h : post (nI (ca_sum (fun p => s - p - ca_sb A s p) s))) :
    ∀ d k, k ≤ s → s - k < d → wX_words_4 post (nI s) (nI t) A B C d (nI (ca_sum (fun p => s - p - ca_sb A s p) k)) (nI k) := by
  intro d
  induction d with
  | zero => intro k _ h; omega
  | succ d ih =>
    intro k hk hd
    refine pk_le s k (fun z => ?_) (fun z => ca_xsb hs hk ?_)
    · cases (show k = s by omega)
      exact h
    · have hb := ca_sb_le (A := A) (s := s) (k := k) hk
      refine nm_r (e' := nI (ca_sum (fun p => s - p - ca_sb A s p) (k + 1))) ?_ (nm_r (nI_1 k) (ih (k + 1) (by omega) (by omega)))
      rw [pk_sub hk, pk_sub (by omega), nI_add]
      rfl
theorem ca_yw_lp (hs : s ≤ 32) (h : post (nI (ca_sum (fun j => ca_wo A s (j + 1)) s))) :
    ∀ d k, k ≤ s → s - k < d → wY_words_4 post (nI s) (nI t) A B C d (nI (ca_sum (fun j => ca_wo A s (j + 1)) k)) (nI (k + 1)) := by
  intro d
  induction d with
  | zero => intro k _ h; omega
  | succ d ih =>
    intro k hk hd
    refine pk_lt s (k + 1) (fun z => ?_) (fun z => ca_ywo hs (by omega) (by omega) ?_)
    · cases (show k = s by omega)
      exact h
    · exact nm_r (e' := nI (ca_sum (fun j => ca_wo A s (j + 1)) (k + 1))) (nI_add _ _) (nm_r (nI_1 (k + 1)) (ih (k + 1) (by omega) (by omega)))
def ca_LR (A : Nat → Int32) (s m : Nat) : Prop := ∀ n, 1 ≤ n → (n ≤ m ↔ ∃ k, k < s ∧ n ≤ ca_sb A s k)
theorem ca_LR_u {m m' : Nat} (h : ca_LR A s m) (h' : ca_LR A s m') : m' = m := by
  have a1 : m ≤ m' := by
    by_cases e : m = 0
    · omega
    · exact (h' m (by omega)).mpr ((h m (by omega)).mp (Nat.le_refl _))
  have a2 : m' ≤ m := by
    by_cases e : m' = 0
    · omega
    · exact (h m' (by omega)).mpr ((h' m' (by omega)).mp (Nat.le_refl _))
  omega
theorem ca_xlr_lp (hs : s ≤ 32) (h : ∀ m, ca_LR A s m → post (nI m)) :
    ∀ d k m, k ≤ s → s - k < d → m ≤ s → (∀ n, 1 ≤ n → (n ≤ m ↔ ∃ k', k' < k ∧ n ≤ ca_sb A s k')) → wX_longestRepeat_4 post (nI s) (nI t) A B C d (nI m) (nI k) := by
  intro d
  induction d with
  | zero => intro k m _ h; omega
  | succ d ih =>
    intro k m hk hd hm hi
    refine pk_le s k (fun z => ?_) (fun z => ca_xsb hs hk ?_)
    · cases (show k = s by omega)
      exact h m hi
    · have hb := ca_sb_le (A := A) (s := s) (k := k) hk
      refine pk_le (ca_sb A s k) m (fun y => nm_r (nI_1 k) (ih (k + 1) m (by omega) (by omega) hm (fun n h1 => ⟨fun w => ?_, fun ⟨k', w1, w2⟩ => ?_⟩))) (fun y => nm_r (nI_1 k) (ih (k + 1) (ca_sb A s k) (by omega) (by omega) (by omega) (fun n h1 => ⟨fun w => ⟨k, by omega, w⟩, fun ⟨k', w1, w2⟩ => ?_⟩)))
      · obtain ⟨k', w1, w2⟩ := (hi n h1).mp w
        exact ⟨k', by omega, w2⟩
      · by_cases e : k' = k
        · rw [e] at w2; omega
        · exact (hi n h1).mpr ⟨k', by omega, w2⟩
      · by_cases e : k' = k
        · rw [e] at w2; exact w2
        · have := (hi n h1).mpr ⟨k', by omega, w2⟩
          omega
theorem ca_wo_lt {n : Nat} (h1 : 1 ≤ n) : ca_wo A s n < s + 1 - n ↔ ∃ k, k < s ∧ n ≤ ca_sb A s k := by
  unfold ca_wo
  rw [ca_cn_lt]
  refine ⟨fun ⟨k, h2, h3⟩ => ⟨k, by omega, by omega⟩, fun ⟨k, h2, h3⟩ => ⟨k, ?_, by omega⟩⟩
  have := ca_sb_le (A := A) (s := s) (k := k) (by omega)
  omega
theorem ca_ylr_lp (hs : s ≤ 32) (h : ∀ m, ca_LR A s m → post (nI m)) :
    ∀ d n m, 1 ≤ n → n ≤ s + 1 → s + 1 - n < d → m ≤ s → (∀ n', 1 ≤ n' → (n' ≤ m ↔ n' < n ∧ ∃ k, k < s ∧ n' ≤ ca_sb A s k)) → wY_longestRepeat_4 post (nI s) (nI t) A B C d (nI m) (nI n) := by
  intro d
  induction d with
  | zero => intro n m _ _ h; omega
  | succ d ih =>
    intro n m h1 hn hd hm hi
    have hwl := ca_wo_le A s n
    refine pk_le s n (fun z => h m (fun n' h1' => (hi n' h1').trans ⟨fun y => y.2, fun ⟨k, y1, y2⟩ => ⟨?_, k, y1, y2⟩⟩)) (fun z => ca_ywo hs h1 (by omega) (pk_le (s - n + 1) (ca_wo A s n) (fun y => nm_r (nI_1 n) (ih (n + 1) m (by omega) (by omega) (by omega) hm (fun n' h1' => (hi n' h1').trans ⟨fun w => ⟨by omega, w.2⟩, fun ⟨w1, w2⟩ => ⟨?_, w2⟩⟩))) (fun y => nm_r (nI_1 n) (ih (n + 1) n (by omega) (by omega) (by omega) (by omega) (fun n' h1' => ⟨fun w => ⟨by omega, ?_⟩, fun w => by omega⟩))) (by rw [pk_sub (by omega), nI_1])))
    · have hb := ca_sb_le (A := A) (s := s) (k := k) (by omega)
      by_cases e : k = 0
      · subst e
        rw [ca_sb_0] at y2
        omega
      · omega
    · by_cases e : n' = n
      · rw [e] at w2
        have := (ca_wo_lt h1).mpr w2
        omega
      · omega
    · obtain ⟨k, w1, w2⟩ := (ca_wo_lt (A := A) (s := s) h1).mp (by omega)
      exact ⟨k, w1, by omega⟩
end
theorem i_vc_words {k : Nat} {u : SX} {v : SY} (I : i_Rel k u v) (hk : k + 3 ≤ 1536) : wpX_words (fun r => wpY_words (fun r' => r' = r ∧ i_Rel (k + 3) u v) v) u := by
  have J := i_up I
  obtain ⟨s, t, A, B, C, D, hs, ht, hA, hB, rfl, rfl⟩ := I
  refine ⟨s + 1, ca_xw_lp hs ?_ (s + 1) 0 (by omega) (by omega)⟩
  refine ⟨s + 1, ca_yw_lp hs ⟨?_, J⟩ (s + 1) 0 (by omega) (by omega)⟩
  rw [ca_words]
theorem i_vc_shortestAbsent {k : Nat} {u : SX} {v : SY} (I : i_Rel k u v) (hk : k + 3 ≤ 1536) : wpX_shortestAbsent (fun r => wpY_shortestAbsent (fun r' => r' = r ∧ i_Rel (k + 3) u v) v) u := by
  have J := i_up I
  obtain ⟨s, t, A, B, C, D, hs, ht, hA, hB, rfl, rfl⟩ := I
  refine ⟨5, ca_xsa_lp hs hA (fun n hn => ?_) 5 1 (by omega) (by omega) (by omega) (by omega) (fun w w1 w2 => by omega)⟩
  exact ⟨5, ca_ysa_lp hs hA hn ⟨rfl, J⟩ 5 1 (by omega) (by omega) (by omega) (fun w w1 w2 => by omega)⟩
theorem i_vc_longestRepeat {k : Nat} {u : SX} {v : SY} (I : i_Rel k u v) (hk : k + 3 ≤ 1536) : wpX_longestRepeat (fun r => wpY_longestRepeat (fun r' => r' = r ∧ i_Rel (k + 3) u v) v) u := by
  have J := i_up I
  obtain ⟨s, t, A, B, C, D, hs, ht, hA, hB, rfl, rfl⟩ := I
  refine ⟨s + 1, ca_xlr_lp hs (fun m hm => ?_) (s + 1) 0 0 (by omega) (by omega) (by omega) (fun n h1 => ⟨fun z => by omega, fun ⟨k', z, _⟩ => by omega⟩)⟩
  refine ⟨s + 2, ca_ylr_lp hs (fun m' hm' => ⟨?_, J⟩) (s + 2) 1 0 (by omega) (by omega) (by omega) (by omega) (fun n h1 => ⟨fun z => by omega, fun z => by omega⟩)⟩
  rw [ca_LR_u hm hm']
