/-! seenBefore of X, standsBefore of Y, wordsOf of both -/
def ca_E (A : Nat → Int32) (s k e n : Nat) : Prop := k + n ≤ s ∧ ∀ x, x < n → A (e + x) = A (k + x)
noncomputable def ca_wo (A : Nat → Int32) (s w : Nat) : Nat := ca_cn (fun p => ca_sb A s p < w) (s + 1 - w)
section
variable {A B C : Nat → Int32} {s t k e m : Nat} {post : Int32 → Prop}
theorem ca_E_le {n n' : Nat} (h : ca_E A s k e n) (hn : n' ≤ n) : ca_E A s k e n' :=
  ⟨by have := h.1; omega, fun x hx => h.2 x (by omega)⟩
theorem ca_xs50 {J4 : Int32 → Int32 → Prop} {m' : Nat} (hm : m < 2 ^ 31) (hm' : m' < 2 ^ 31) (h1 : m' ≤ m → J4 (nI m) (nI (e + 1))) (h2 : m < m' → J4 (nI m') (nI (e + 1))) :
    wX_seenBefore_50 post J4 (nI k) (nI m) (nI e) (nI m') (nI s) (nI t) A B C :=
  pk_le m' m (fun z => nm_r (nI_1 e) (h1 z)) (fun z => nm_r (nI_1 e) (h2 z))
theorem ca_xs12 {J4 : Int32 → Int32 → Prop} (hs : s ≤ 32) (hk : k ≤ s) (he : e < k) (hm : m ≤ s)
    (h : ∀ m', (∀ n, n ≤ m' ↔ ca_E A s k e n) → (m' ≤ m → J4 (nI m) (nI (e + 1))) ∧ (m < m' → J4 (nI m') (nI (e + 1)))) :
    ∀ d n, ca_E A s k e n → s - (k + n) < d → wX_seenBefore_12 post J4 (nI k) (nI m) (nI e) (nI s) (nI t) A B C d (nI n) := by
  intro d
  induction d with
  | zero => intro n _ h; omega
  | succ d ih =>
    intro n ho hd
    have h1 := ho.1
    refine pk_le s (k + n) (fun z => ?_) (fun z => ⟨pk_in (e + n) 32 (by omega) (nI_add e n), pk_in (k + n) 32 (by omega) (nI_add k n), ?_⟩) rfl (nI_add k n)
    · have hh := h n (fun n' => ⟨fun y => ca_E_le ho y, fun y => by have := y.1; omega⟩)
      exact ca_xs50 (by omega) (by omega) hh.1 hh.2
    · have ea : A (nI e + nI n).toNatClampNeg = A (e + n) := congrArg A (pk_cl (e + n) (nI_add e n))
      have eb : A (nI k + nI n).toNatClampNeg = A (k + n) := congrArg A (pk_cl (k + n) (nI_add k n))
      by_cases e3 : A (e + n) = A (k + n)
      · refine br_t (by rw [ea, eb]; exact e3) (nm_r (nI_1 n) (ih (n + 1) ⟨by omega, fun x hx => ?_⟩ (by omega)))
        by_cases e4 : x = n
        · rw [e4]; exact e3
        · exact ho.2 x (by omega)
      · have hh := h n (fun n' => ⟨fun y => ca_E_le ho y, fun y => by
          by_cases e4 : n' ≤ n
          · exact e4
          · exact absurd (y.2 n (by omega)) e3⟩)
        exact br_f (by rw [ea, eb]; exact e3) (ca_xs50 (by omega) (by omega) hh.1 hh.2)
theorem ca_xs4 (hs : s ≤ 32) (hk : k ≤ s) (h : post (nI (ca_sb A s k))) :
    ∀ d e m, e ≤ k → k - e < d → m ≤ s → (∀ n, 1 ≤ n → (n ≤ m ↔ ∃ e', e' < e ∧ ca_E A s k e' n)) → wX_seenBefore_4 post (nI k) (nI s) (nI t) A B C d (nI m) (nI e) := by
  intro d
  induction d with
  | zero => intro e m _ h; omega
  | succ d ih =>
    intro e m he hd hm hi
    refine pk_le k e (fun z => ?_) (fun z => ⟨s + 1, ca_xs12 hs hk z hm (fun m' hm' => ?_) (s + 1) 0 ⟨by omega, fun x hx => absurd hx (Nat.not_lt_zero x)⟩ (by omega)⟩)
    · have e2 : m = ca_sb A s k := ca_sb_eq (fun n h1 => (hi n h1).trans ⟨fun ⟨e', y1, y2⟩ => ⟨y2.1, e', by omega, y2.2⟩, fun ⟨y1, e', y2, y3⟩ => ⟨e', by omega, y1, y3⟩⟩)
      rw [e2]; exact h
    · have hm1 := ((hm' m').mp (Nat.le_refl _)).1
      refine ⟨fun y => ih (e + 1) m (by omega) (by omega) hm (fun n h1 => ⟨fun w => ?_, fun ⟨e', w1, w2⟩ => ?_⟩), fun y => ih (e + 1) m' (by omega) (by omega) (by omega) (fun n h1 => ⟨fun w => ⟨e, by omega, (hm' n).mp w⟩, fun ⟨e', w1, w2⟩ => ?_⟩)⟩
      · obtain ⟨e', w1, w2⟩ := (hi n h1).mp w
        exact ⟨e', by omega, w2⟩
      · by_cases e3 : e' = e
        · rw [e3] at w2
          have := (hm' n).mpr w2
          omega
        · exact (hi n h1).mpr ⟨e', by omega, w2⟩
      · by_cases e3 : e' = e
        · rw [e3] at w2
          exact (hm' n).mpr w2
        · have := (hi n h1).mpr ⟨e', by omega, w2⟩
          omega
theorem ca_xsb (hs : s ≤ 32) (hk : k ≤ s) (h : post (nI (ca_sb A s k))) : wpX_seenBefore post (nI s, nI t, A, B, C) (nI k) :=
  ⟨k + 1, ca_xs4 hs hk h (k + 1) 0 0 (by omega) (by omega) (by omega) (fun n h1 => ⟨fun z => by omega, fun ⟨e', z, _⟩ => by omega⟩)⟩
theorem ca_ysm_lp {l n : Nat} (hs : s ≤ 32) (hl : l ≤ k) (hk : k + n ≤ s) (h1 : ca_E A s k l n → post 1) (h0 : ¬ ca_E A s k l n → post 0) :
    ∀ d x, x ≤ n → n - x < d → (∀ y, y < x → A (l + y) = A (k + y)) → wY_same_3 post (nI l) (nI k) (nI n) (nI s) (nI t) A B C d (nI x) := by
  intro d
  induction d with
  | zero => intro x _ h; omega
  | succ d ih =>
    intro x hx hd hl2
    refine pk_le n x (fun z => h1 ⟨hk, fun y hy => hl2 y (by omega)⟩) (fun z => ⟨pk_in (l + x) 32 (by omega) (nI_add l x), pk_in (k + x) 32 (by omega) (nI_add k x), ?_⟩)
    have ea : A (nI l + nI x).toNatClampNeg = A (l + x) := congrArg A (pk_cl (l + x) (nI_add l x))
    have eb : A (nI k + nI x).toNatClampNeg = A (k + x) := congrArg A (pk_cl (k + x) (nI_add k x))
    by_cases e3 : A (l + x) = A (k + x)
    · refine br_t (by rw [ea, eb]; exact e3) (nm_r (nI_1 x) (ih (x + 1) (by omega) (by omega) (fun y hy => ?_)))
      by_cases e4 : y = x
      · rw [e4]; exact e3
      · exact hl2 y (by omega)
    · exact br_f (by rw [ea, eb]; exact e3) (h0 (fun w => e3 (w.2 x z)))
theorem ca_ysb_lp {n : Nat} (hs : s ≤ 32) (h1n : 1 ≤ n) (hk : k + n ≤ s) (h1 : n ≤ ca_sb A s k → post 1) (h0 : ca_sb A s k < n → post 0) :
    ∀ d l, l ≤ k → k - l < d → (∀ l', l' < l → ¬ ca_E A s k l' n) → wY_standsBefore_2 post (nI k) (nI n) (nI s) (nI t) A B C d (nI l) := by
  intro d
  induction d with
  | zero => intro l _ h; omega
  | succ d ih =>
    intro l hl hd hno
    refine pk_le k l (fun z => h0 ?_) (fun z => ⟨n + 1, ca_ysm_lp hs hl hk (fun o => br_f ca_10 (h1 ?_)) (fun o => br_t rfl (nm_r (nI_1 l) (ih (l + 1) (by omega) (by omega) (fun l' hl' w => ?_)))) (n + 1) 0 (by omega) (by omega) (fun y hy => absurd hy (Nat.not_lt_zero y))⟩)
    · apply Nat.lt_of_not_le
      intro w
      obtain ⟨w1, e', w2, w3⟩ := (ca_sb_iff h1n).mp w
      exact hno e' (by omega) ⟨w1, w3⟩
    · exact (ca_sb_iff h1n).mpr ⟨hk, l, z, o.2⟩
    · by_cases e3 : l' = l
      · rw [e3] at w; exact o w
      · exact hno l' (by omega) w
theorem ca_ysb {n : Nat} (hs : s ≤ 32) (h1n : 1 ≤ n) (hk : k + n ≤ s) (h1 : n ≤ ca_sb A s k → post 1) (h0 : ca_sb A s k < n → post 0) : wpY_standsBefore post (nI s, nI t, A, B, C) (nI k) (nI n) :=
  ⟨k + 1, ca_ysb_lp hs h1n hk h1 h0 (k + 1) 0 (by omega) (by omega) (fun y hy => absurd hy (Nat.not_lt_zero y))⟩
theorem ca_sneg {w : Nat} (hs : s ≤ 32) (hw : w < 2 ^ 31) (h : s < w) : nI s - nI w < 0 := by
  rw [Int32.lt_iff_toInt_lt, Int32.toInt_sub, nI_toInt (by omega), nI_toInt hw, show (0 : Int32).toInt = 0 from by decide, Int.bmod_eq_of_le (by omega) (by omega)]
  omega
theorem ca_xwo_lp {w : Nat} (hs : s ≤ 32) (h1 : 1 ≤ w) (hw : w ≤ s) (h : post (nI (ca_wo A s w))) :
    ∀ d p, p ≤ s + 1 - w → s + 1 - w - p < d → wX_wordsOf_11 post (nI w) (nI s) (nI t) A B C d (nI (ca_cn (fun p => ca_sb A s p < w) p)) (nI p) := by
  intro d
  induction d with
  | zero => intro p _ h; omega
  | succ d ih =>
    intro p hp hd
    refine pk_lt (s - w) p (fun z => ?_) (fun z => ca_xsb hs (by omega) ?_) (pk_sub hw)
    · cases (show p = s + 1 - w by omega)
      exact h
    · have hb := ca_sb_le (A := A) (s := s) (k := p) (by omega)
      have hr := ih (p + 1) (by omega) (by omega)
      refine pk_le w (ca_sb A s p) (fun y => ?_) (fun y => ?_)
      · rw [ca_cn_f (P := fun p => ca_sb A s p < w) (n := p) (by omega)] at hr
        exact nm_r (nI_1 p) hr
      · rw [ca_cn_t (P := fun p => ca_sb A s p < w) (n := p) y] at hr
        exact nm_r (nI_1 _) (nm_r (nI_1 p) hr)
theorem ca_xwo {w : Nat} (hs : s ≤ 32) (h1 : 1 ≤ w) (hw : w < 2 ^ 31) (h : post (nI (ca_wo A s w))) : wpX_wordsOf post (nI s, nI t, A, B, C) (nI w) := by
  refine pk_le 1 w (fun _ => ?_) (fun z => by omega)
  by_cases hws : w ≤ s
  · exact ⟨s + 2, ca_xwo_lp hs h1 hws h (s + 2) 0 (by omega) (by omega)⟩
  · refine ⟨1, br_t (ca_sneg hs hw (by omega)) ?_⟩
    unfold ca_wo at h
    rw [show s + 1 - w = 0 by omega] at h
    exact h
theorem ca_ywo_lp {w : Nat} (hs : s ≤ 32) (h1 : 1 ≤ w) (hw : w ≤ s) (h : post (nI (ca_wo A s w))) :
    ∀ d p, p ≤ s + 1 - w → s + 1 - w - p < d → wY_wordsOf_19 post (nI w) (nI s) (nI t) A B C d (nI (ca_cn (fun p => ca_sb A s p < w) p)) (nI p) := by
  intro d
  induction d with
  | zero => intro p _ h; omega
  | succ d ih =>
    intro p hp hd
    refine pk_lt s (p + w) (fun z => ?_) (fun z => ?_) rfl (nI_add p w)
    · cases (show p = s + 1 - w by omega)
      exact h
    · have hr := ih (p + 1) (by omega) (by omega)
      refine ca_ysb hs h1 (by omega) (fun y => br_f ca_10 ?_) (fun y => br_t rfl ?_)
      · rw [ca_cn_f (P := fun p => ca_sb A s p < w) (n := p) (by omega)] at hr
        exact nm_r (nI_1 p) hr
      · rw [ca_cn_t (P := fun p => ca_sb A s p < w) (n := p) y] at hr
        exact nm_r (nI_1 _) (nm_r (nI_1 p) hr)
theorem ca_ywo {w : Nat} (hs : s ≤ 32) (h1 : 1 ≤ w) (hw : w < 2 ^ 31) (h : post (nI (ca_wo A s w))) : wpY_wordsOf post (nI s, nI t, A, B, C) (nI w) := by
  refine pk_lt w 1 (fun z => by omega) (fun _ => pk_le w s (fun z => ⟨s + 2, ca_ywo_lp hs h1 z h (s + 2) 0 (by omega) (by omega)⟩) (fun z => ?_))
  unfold ca_wo at h
  rw [show s + 1 - w = 0 by omega] at h
  exact h
end
theorem i_vc_wordsOf {k : Nat} {u : SX} {v : SY} (I : i_Rel k u v) (hk : k + 3 ≤ 1536) (v1 : Int32) : wpX_wordsOf (fun r => wpY_wordsOf (fun r' => r' = r ∧ i_Rel (k + 3) u v) v v1) u v1 := by
  have J := i_up I
  obtain ⟨s, t, A, B, C, D, hs, ht, hA, hB, rfl, rfl⟩ := I
  by_cases h1 : 1 ≤ v1
  · obtain ⟨w, hw, rfl⟩ := nI_of (x := v1) (Int32.not_lt.mpr (Int32.le_trans (by decide) h1))
    have hw1 : 1 ≤ w := (nI_leI (a := 1) (b := w) (by omega) hw).mp h1
    exact ca_xwo hs hw1 hw (ca_ywo hs hw1 hw ⟨rfl, J⟩)
  · exact br_f h1 (br_t (Int32.not_le.mp h1) ⟨rfl, J⟩)
