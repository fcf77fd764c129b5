/-! the relation; pieces, pieceLength, pieceFrom -/
def ca_L (A : Nat → Int32) (n : Nat) : Prop := ∀ j, j < n → ∃ c, c < 4 ∧ A j = nI c
/-- both sides hold the same texts (one function each) and the same lengths, and letters are letters; the scratch arrays are free -/
def i_Rel (_ : Nat) (u : SX) (v : SY) : Prop :=
  ∃ (s t : Nat) (A B C D : Nat → Int32), s ≤ 32 ∧ t ≤ 24 ∧ ca_L A s ∧ ca_L B t ∧ u = (nI s, nI t, A, B, C) ∧ v = (nI s, nI t, A, B, D)
theorem i_up {k : Nat} {u : SX} {v : SY} (h : i_Rel k u v) : i_Rel (k + 3) u v := h
noncomputable def ca_st (A B : Nat → Int32) (s t i : Nat) : Nat := if ca_lf A B s t i = 0 then 1 else ca_lf A B s t i
noncomputable def ca_bg (A B : Nat → Int32) (s t : Nat) : Nat → Nat
  | 0 => 0
  | p + 1 => if ca_bg A B s t p < t then ca_bg A B s t p + ca_st A B s t (ca_bg A B s t p) else ca_bg A B s t p
section
variable {A B C : Nat → Int32} {s t i p : Nat} {post : Int32 → Prop}
theorem ca_st_1 : 1 ≤ ca_st A B s t i := by
  unfold ca_st
  split <;> omega
theorem ca_st_0 (h : ca_lf A B s t i = 0) : ca_st A B s t i = 1 := by unfold ca_st; exact if_pos h
theorem ca_st_n (h : ca_lf A B s t i ≠ 0) : ca_st A B s t i = ca_lf A B s t i := by unfold ca_st; exact if_neg h
theorem ca_st_le (hi : i < t) : i + ca_st A B s t i ≤ t := by
  have := ca_lf_le (A := A) (B := B) (s := s) (t := t) (i := i) (by omega)
  unfold ca_st
  split <;> omega
theorem ca_bg_s (h : ca_bg A B s t p < t) : ca_bg A B s t (p + 1) = ca_bg A B s t p + ca_st A B s t (ca_bg A B s t p) := by
  rw [ca_bg]; exact if_pos h
theorem ca_bg_e (h : t ≤ ca_bg A B s t p) : ca_bg A B s t (p + 1) = ca_bg A B s t p := by
  rw [ca_bg]; exact if_neg (by omega)
theorem ca_bg_le (A B : Nat → Int32) (s t : Nat) : ∀ p, ca_bg A B s t p ≤ t := by
  intro p
  induction p with
  | zero => exact Nat.zero_le _
  | succ p ih =>
    by_cases h : ca_bg A B s t p < t
    · rw [ca_bg_s h]; exact ca_st_le h
    · rw [ca_bg_e (by omega)]; exact ih
theorem ca_bg_ge (A B : Nat → Int32) (s t : Nat) : ∀ p, p ≤ t → p ≤ ca_bg A B s t p := by
  intro p
  induction p with
  | zero => intro _; exact Nat.zero_le _
  | succ p ih =>
    intro hp
    have := ih (by omega)
    by_cases h : ca_bg A B s t p < t
    · rw [ca_bg_s h]
      have := ca_st_1 (A := A) (B := B) (s := s) (t := t) (i := ca_bg A B s t p)
      omega
    · rw [ca_bg_e (by omega)]; omega
theorem ca_bg_k {q : Nat} (h : t ≤ ca_bg A B s t q) : ∀ d, ca_bg A B s t (q + d) = ca_bg A B s t q := by
  intro d
  induction d with
  | zero => rfl
  | succ d ih => rw [show q + (d + 1) = (q + d) + 1 by omega, ca_bg_e (by omega), ih]
theorem ca_bg_k' {q : Nat} (h : t ≤ ca_bg A B s t q) (hp : q ≤ p) : ca_bg A B s t p = ca_bg A B s t q := by
  have := ca_bg_k h (p - q)
  rw [show q + (p - q) = p by omega] at this
  exact this
theorem ca_xpe (hs : s ≤ 32) (ht : t ≤ 24) (hi : i < t) (h : post (nI (i + ca_st A B s t i))) : wpX_pieceEnd post (nI s, nI t, A, B, C) (nI i) := by
  have hl := ca_lf_le (A := A) (B := B) (s := s) (t := t) (i := i) (by omega)
  unfold wpX_pieceEnd
  dsimp only
  refine ca_xlf hs ht (by omega) ?_
  refine pk_eq (ca_lf A B s t i) 0 (fun e => ?_) (fun e => ?_)
  · rw [nI_1, ← ca_st_0 e]; exact h
  · rw [nI_add, ← ca_st_n e]; exact h
theorem ca_xpc_lp (hs : s ≤ 32) (ht : t ≤ 24) (h : ∀ c, t ≤ ca_bg A B s t c → (∀ p, p < c → ca_bg A B s t p < t) → post (nI c)) :
    ∀ d c, c ≤ t → t - c < d → (∀ p, p < c → ca_bg A B s t p < t) → wX_pieces_4 post (nI s) (nI t) A B C d (nI c) (nI (ca_bg A B s t c)) := by
  intro d
  induction d with
  | zero => intro c _ h; omega
  | succ d ih =>
    intro c hc hd hl
    have hb := ca_bg_le A B s t c
    refine pk_le t c (fun e => h c (Nat.le_trans e (ca_bg_ge A B s t c hc)) hl) (fun e => pk_le t (ca_bg A B s t c) (fun e2 => h c e2 hl) (fun e2 => ca_xpe hs ht e2 ?_))
    rw [← ca_bg_s e2]
    refine nm_r (nI_1 c) (ih (c + 1) (by omega) (by omega) (fun p hp => ?_))
    by_cases e3 : p = c
    · rw [e3]; exact e2
    · exact hl p (by omega)
theorem ca_xpc (hs : s ≤ 32) (ht : t ≤ 24) (h : ∀ c, t ≤ ca_bg A B s t c → (∀ p, p < c → ca_bg A B s t p < t) → post (nI c)) : wpX_pieces post (nI s, nI t, A, B, C) :=
  ⟨t + 1, ca_xpc_lp hs ht h (t + 1) 0 (by omega) (by omega) (fun p hp => absurd hp (Nat.not_lt_zero p))⟩
theorem ca_ybg_lp (hs : s ≤ 32) (ht : t ≤ 24) (hp : p < 2 ^ 31) (h : post (nI (ca_bg A B s t p))) :
    ∀ d q, q ≤ p → t - ca_bg A B s t q < d → wY_beginOf_4 post (nI p) (nI s) (nI t) A B C d (nI (ca_bg A B s t q)) (nI q) := by
  intro d
  induction d with
  | zero => intro q _ h; omega
  | succ d ih =>
    intro q hq hd
    have hb := ca_bg_le A B s t q
    refine pk_le p q (fun e => ?_) (fun e => pk_le t (ca_bg A B s t q) (fun e2 => ?_) (fun e2 => ca_ylf hs ht (by omega) ?_))
    · rw [show q = p by omega]; exact h
    · rw [← ca_bg_k' e2 hq]; exact h
    · have hl := ca_lf_le (A := A) (B := B) (s := s) (t := t) (i := ca_bg A B s t q) (by omega)
      have hst := ca_st_1 (A := A) (B := B) (s := s) (t := t) (i := ca_bg A B s t q)
      have hg := ca_bg_s e2
      have hr := ih (q + 1) (by omega) (by omega)
      refine pk_eq (ca_lf A B s t (ca_bg A B s t q)) 0 (fun e3 => ?_) (fun e3 => ?_)
      · rw [hg, ca_st_0 e3] at hr
        exact nm_r (nI_1 _) (nm_r (nI_1 q) hr)
      · rw [hg, ca_st_n e3] at hr
        exact nm_r (nI_add _ _) (nm_r (nI_1 q) hr)
theorem ca_ybg (hs : s ≤ 32) (ht : t ≤ 24) (hp : p < 2 ^ 31) (h : post (nI (ca_bg A B s t p))) : wpY_beginOf post (nI s, nI t, A, B, C) (nI p) :=
  ⟨t + 1, ca_ybg_lp hs ht hp h (t + 1) 0 (by omega) (by omega)⟩
theorem ca_ybgn {x : Int32} (hx : x < 0) (h : post 0) : wpY_beginOf post (nI s, nI t, A, B, C) x :=
  ⟨1, br_t (Int32.le_of_lt hx) h⟩
theorem ca_ypc_lp (hs : s ≤ 32) (ht : t ≤ 24) (h : ∀ c, t ≤ ca_bg A B s t c → (∀ p, p < c → ca_bg A B s t p < t) → post (nI c)) :
    ∀ d c, c ≤ t → t - c < d → (∀ p, p < c → ca_bg A B s t p < t) → wY_pieces_2 post (nI s) (nI t) A B C d (nI c) := by
  intro d
  induction d with
  | zero => intro c _ h; omega
  | succ d ih =>
    intro c hc hd hl
    have hb := ca_bg_le A B s t c
    have hg := ca_bg_ge A B s t c hc
    refine pk_le 24 c (fun e => h c (by omega) hl) (fun e => ca_ybg hs ht (by omega) (pk_le t (ca_bg A B s t c) (fun e2 => h c e2 hl) (fun e2 => nm_r (nI_1 c) (ih (c + 1) (by omega) (by omega) (fun p hp => ?_)))))
    by_cases e3 : p = c
    · rw [e3]; exact e2
    · exact hl p (by omega)
theorem ca_ypc (hs : s ≤ 32) (ht : t ≤ 24) (h : ∀ c, t ≤ ca_bg A B s t c → (∀ p, p < c → ca_bg A B s t p < t) → post (nI c)) : wpY_pieces post (nI s, nI t, A, B, C) :=
  ⟨t + 1, ca_ypc_lp hs ht h (t + 1) 0 (by omega) (by omega) (fun p hp => absurd hp (Nat.not_lt_zero p))⟩
theorem ca_xpb_lp (hs : s ≤ 32) (ht : t ≤ 24) (hp : p < t) (h1 : ca_bg A B s t p < t → post (nI (ca_bg A B s t p))) (h0 : t ≤ ca_bg A B s t p → post (-4)) :
    ∀ d q, q ≤ p → p - q < d → wX_pieceBegin_19 post (nI p) (nI s) (nI t) A B C d (nI (ca_bg A B s t q)) (nI q) := by
  intro d
  induction d with
  | zero => intro q _ h; omega
  | succ d ih =>
    intro q hq hd
    have hb := ca_bg_le A B s t q
    refine pk_le p q (fun e => ?_) (fun e => pk_le t (ca_bg A B s t q) (fun e2 => ?_) (fun e2 => ca_xpe hs ht e2 ?_))
    · cases (show q = p by omega)
      exact pk_le t (ca_bg A B s t p) (fun e2 => h0 e2) (fun e2 => h1 e2)
    · have e3 := ca_bg_k' e2 hq
      exact pk_le t (ca_bg A B s t q) (fun e4 => h0 (by omega)) (fun e4 => by omega)
    · rw [← ca_bg_s e2]
      exact nm_r (nI_1 q) (ih (q + 1) (by omega) (by omega))
theorem ca_xpb (hs : s ≤ 32) (ht : t ≤ 24) (hp : p < 2 ^ 31) (h1 : ca_bg A B s t p < t → post (nI (ca_bg A B s t p))) (h0 : t ≤ ca_bg A B s t p → post (-4)) :
    wpX_pieceBegin post (nI s, nI t, A, B, C) (nI p) := by
  refine br_f (nI_pos hp) (pk_lt p t (fun e => ⟨p + 1, ca_xpb_lp hs ht e h1 h0 (p + 1) 0 (by omega) (by omega)⟩) (fun e => h0 ?_))
  have h2 := ca_bg_ge A B s t t (Nat.le_refl _)
  have h3 := ca_bg_k' h2 e
  omega
end
theorem i_vc_pieces {k : Nat} {u : SX} {v : SY} (I : i_Rel k u v) (hk : k + 3 ≤ 1536) : wpX_pieces (fun r => wpY_pieces (fun r' => r' = r ∧ i_Rel (k + 3) u v) v) u := by
  have J := i_up I
  obtain ⟨s, t, A, B, C, D, hs, ht, hA, hB, rfl, rfl⟩ := I
  refine ca_xpc hs ht (fun c h1 h2 => ca_ypc hs ht (fun c' h1' h2' => ⟨?_, J⟩))
  have e : c' = c := by
    rcases Nat.lt_trichotomy c' c with h | h | h
    · have := h2 c' h; omega
    · exact h
    · have := h2' c h; omega
  rw [e]
theorem i_vc_pieceLength {k : Nat} {u : SX} {v : SY} (I : i_Rel k u v) (hk : k + 3 ≤ 1536) (v1 : Int32) : wpX_pieceLength (fun r => wpY_pieceLength (fun r' => r' = r ∧ i_Rel (k + 3) u v) v v1) u v1 := by
  have J := i_up I
  obtain ⟨s, t, A, B, C, D, hs, ht, hA, hB, rfl, rfl⟩ := I
  unfold wpX_pieceLength wpY_pieceLength
  dsimp only
  by_cases hn : v1 < 0
  · exact br_t hn (br_t rfl (ca_ybgn hn (br_t hn ⟨rfl, J⟩)))
  · obtain ⟨p, hp, rfl⟩ := nI_of hn
    have hb := ca_bg_le A B s t p
    refine ca_xpb hs ht hp (fun e => ?_) (fun e => ?_)
    · have hl := ca_lf_le (A := A) (B := B) (s := s) (t := t) (i := ca_bg A B s t p) (by omega)
      refine br_f (ca_nI4 (by omega)) (ca_xpe hs ht e (ca_ybg hs ht hp (br_f hn (pk_lt (ca_bg A B s t p) t (fun _ => ca_ylf hs ht (by omega) ?_) (fun e2 => by omega)))))
      rw [pk_sub (by omega), Nat.add_sub_cancel_left]
      refine pk_eq (ca_lf A B s t (ca_bg A B s t p)) 0 (fun e3 => ⟨?_, J⟩) (fun e3 => ⟨?_, J⟩)
      · rw [ca_st_0 e3]; rfl
      · rw [ca_st_n e3]
    · exact br_t rfl (ca_ybg hs ht hp (br_f hn (pk_lt (ca_bg A B s t p) t (fun e2 => by omega) (fun e2 => ⟨rfl, J⟩))))
theorem ca_xpl' {A B C : Nat → Int32} {s t i j : Nat} {post : Int32 → Prop} (hs : s ≤ 32) (ht : t ≤ 24) (h1 : i < j) (hj : j ≤ t) {r : Int32} (hr : ca_PL A B s t i (j - i) r) (h : post r) : wpX_leastPlace post (nI s, nI t, A, B, C) (nI i) (nI j) := by
  obtain ⟨n, rfl⟩ : ∃ n, j = i + n := ⟨j - i, by omega⟩
  rw [Nat.add_sub_cancel_left] at hr
  exact ca_xpl hs ht (by omega) hj hr h
theorem i_vc_pieceFrom {k : Nat} {u : SX} {v : SY} (I : i_Rel k u v) (hk : k + 3 ≤ 1536) (v1 : Int32) : wpX_pieceFrom (fun r => wpY_pieceFrom (fun r' => r' = r ∧ i_Rel (k + 3) u v) v v1) u v1 := by
  have J := i_up I
  obtain ⟨s, t, A, B, C, D, hs, ht, hA, hB, rfl, rfl⟩ := I
  unfold wpX_pieceFrom wpY_pieceFrom
  dsimp only
  by_cases hn : v1 < 0
  · exact br_t hn (br_t rfl (ca_ybgn hn (br_t hn ⟨rfl, J⟩)))
  · obtain ⟨p, hp, rfl⟩ := nI_of hn
    have hb := ca_bg_le A B s t p
    refine ca_xpb hs ht hp (fun e => ?_) (fun e => ?_)
    · have hl := ca_lf_le (A := A) (B := B) (s := s) (t := t) (i := ca_bg A B s t p) (by omega)
      obtain ⟨r, hr⟩ := ca_PL_ex (A := A) (B := B) (s := s) (t := t) (i := ca_bg A B s t p) (n := ca_st A B s t (ca_bg A B s t p))
      have h1 := ca_st_1 (A := A) (B := B) (s := s) (t := t) (i := ca_bg A B s t p)
      refine br_f (ca_nI4 (by omega)) (ca_xpe hs ht e (ca_xpl hs ht h1 (ca_st_le e) hr (ca_ybg hs ht hp (br_f hn (pk_lt (ca_bg A B s t p) t (fun _ => ca_ylf hs ht (by omega) ?_) (fun e2 => by omega))))))
      refine pk_eq (ca_lf A B s t (ca_bg A B s t p)) 0 (fun e3 => ⟨?_, J⟩) (fun e3 => ?_)
      · rw [ca_st_0 e3] at hr
        refine (ca_PL_n hr (fun k z => ?_)).symm
        have := (ca_lf_iff (A := A) (B := B) (s := s) (t := t) (i := ca_bg A B s t p) (n := 1) (Nat.le_refl _)).mpr ⟨k, z⟩
        omega
      · rw [ca_st_n e3] at hr
        exact ca_ypl hs ht (by omega) hr ⟨rfl, J⟩
    · exact br_t rfl (ca_ybg hs ht hp (br_f hn (pk_lt (ca_bg A B s t p) t (fun e2 => by omega) (fun e2 => ⟨rfl, J⟩))))
