def tf_LV (nB : Nat) (L : Nat → Int32) : Prop := (∀ b, b < 16 → ∃ l, l ≤ 16 ∧ L b = nI l) ∧ ∀ b, nB ≤ b → b < 16 → L b = 0
def tf_CE (nS nB : Nat) (L op kk : Nat → Int32) : Prop := ∀ b l i, b < nB → l ≤ 16 → L b = nI l → i < l → ∃ o, o ≤ 8 ∧ op (b * 16 + i) = nI o ∧ ((o = 6 ∨ o = 7) → ∃ s, s < nS ∧ kk (b * 16 + i) = nI s)
def tf_AF (nK : Nat) (al xe : Nat → Int32) : Prop := ∀ k, nK ≤ k → k < 16 → xe k = 0 ∧ ∀ s, s < 16 → al (k * 16 + s) = -1
def tf_FL (nC nT nS nK : Nat) (own ow tr ex al fl : Nat → Int32) : Prop := ∀ o s, (o < nC ∨ (8 ≤ o ∧ o < 8 + nT)) → s < nS → fl (o * 16 + s) = tf_PR own ow tr ex al nK o s
def tf_NU (nC nT nS nD nB nK : Nat) : Prop := (1 ≤ nC ∧ nC ≤ 8) ∧ (1 ≤ nT ∧ nT ≤ 8) ∧ (1 ≤ nS ∧ nS ≤ 16) ∧ (1 ≤ nD ∧ nD ≤ 16) ∧ nB ≤ 16 ∧ nK ≤ 16
def tf_Ok (nC nT nS nD nB nK : Nat) (L op kk su own ow tr xe ex al fl : Nat → Int32) : Prop := tf_NU nC nT nS nD nB nK ∧ tf_LV nB L ∧ tf_CE nS nB L op kk ∧ tf_SV nC su ∧ tf_OV nB own ∧ tf_CV nT nS nK ow tr al ∧ tf_AF nK al xe ∧ tf_EX nS xe ex ∧ tf_FL nC nT nS nK own ow tr ex al fl
theorem tf_OV_mono {nB : Nat} {own : Nat → Int32} (h : tf_OV nB own) : tf_OV (nB + 1) own := by
  intro i hi
  rcases h i hi with e | ⟨b, hb, e⟩
  · exact Or.inl e
  · exact Or.inr ⟨b, by omega, e⟩
theorem tf_CE_begin {nS nB : Nat} {L op kk : Nat → Int32} (hB : nB < 16) (hL : tf_LV nB L) (h : tf_CE nS nB L op kk) : tf_CE nS (nB + 1) L op kk := by
  intro b l i h1 h2 h3 h4
  by_cases c : b < nB
  · exact h b l i c h2 h3 h4
  · have e : b = nB := by omega
    subst e
    have e2 := hL.2 b (Nat.le_refl _) hB
    rw [e2, ← nI_0] at h3
    have e3 := (nI_eq (by omega) (by omega)).mp h3
    omega
theorem tf_LV_begin {nB : Nat} {L : Nat → Int32} (h : tf_LV nB L) : tf_LV (nB + 1) L := ⟨h.1, fun b hb => h.2 b (by omega)⟩
theorem tf_LV_emit {nB : Nat} {L : Nat → Int32} (h : tf_LV nB L) {b l : Nat} (hb : b < nB) (hl : l < 16) : tf_LV nB (upd L b (nI (l + 1))) := by
  constructor
  · intro c hc
    by_cases e : c = b
    · subst e
      exact ⟨l + 1, by omega, pk_us⟩
    · rw [pk_un e]
      exact h.1 c hc
  · intro c hc h16
    rw [pk_un (by omega)]
    exact h.2 c hc h16
theorem tf_CE_emit {nS nB : Nat} {L op kk : Nat → Int32} (h : tf_CE nS nB L op kk) {b l o : Nat} {k : Int32} (hb : b < nB) (hl : l < 16) (e : L b = nI l) (ho : o ≤ 8) (hk : (o = 6 ∨ o = 7) → ∃ s, s < nS ∧ k = nI s) : tf_CE nS nB (upd L b (nI (l + 1))) (upd op (b * 16 + l) (nI o)) (upd kk (b * 16 + l) k) := by
  intro b' l' i h1 h2 h3 h4
  by_cases c : b' = b
  · subst c
    rw [pk_us] at h3
    have e2 : l + 1 = l' := (nI_eq (by omega) (by omega)).mp h3
    by_cases c2 : i = l
    · subst c2
      rw [pk_us, pk_us]
      exact ⟨o, ho, rfl, hk⟩
    · rw [pk_un (by omega), pk_un (by omega)]
      exact h b' l i h1 (by omega) e (by omega)
  · rw [pk_un c] at h3
    rw [pk_un (by omega), pk_un (by omega)]
    exact h b' l' i h1 h2 h3 h4
theorem tf_SV_set {nC : Nat} {su : Nat → Int32} (h : tf_SV nC su) {c : Nat} {x : Int32} (hx : x = -1 ∨ ∃ d, d < c ∧ x = nI d) : tf_SV nC (upd su c x) := by
  intro j hj
  by_cases e : j = c
  · subst e
    rw [pk_us]
    exact hx
  · rw [pk_un e]
    exact h j hj
theorem tf_OV_set {nB : Nat} {own : Nat → Int32} (h : tf_OV nB own) {i : Nat} {x : Int32} (hx : x = -1 ∨ ∃ b, b < nB ∧ x = nI b) : tf_OV nB (upd own i x) := by
  intro j hj
  by_cases e : j = i
  · subst e
    rw [pk_us]
    exact hx
  · rw [pk_un e]
    exact h j hj
theorem tf_CV_use {nT nS nK : Nat} {ow tr al : Nat → Int32} (hS : nS ≤ 16) (h : tf_CV nT nS nK ow tr al) (hf : ∀ s, s < 16 → al (nK * 16 + s) = -1) {o u : Nat} (ho : o < 16) (hu : u < nT) (hou : 8 ≤ o → u + 8 < o) : tf_CV nT nS (nK + 1) (upd ow nK (nI o)) (upd tr nK (nI u)) al := by
  intro k hk
  by_cases c : k = nK
  · subst c
    exact ⟨o, u, pk_us, pk_us, ho, hu, hou, fun s hs => Or.inl (hf s (by omega))⟩
  · rw [pk_un c, pk_un c]
    exact h k (by omega)
theorem tf_CV_alias {nT nS nK : Nat} {ow tr al : Nat → Int32} (h : tf_CV nT nS nK ow tr al) {i r : Nat} (hr : r < nS) : tf_CV nT nS nK ow tr (upd al i (nI r)) := by
  intro j hj
  obtain ⟨o, u, h1, h2, h3, h4, h5, h6⟩ := h j hj
  refine ⟨o, u, h1, h2, h3, h4, h5, fun s hs => ?_⟩
  by_cases c : j * 16 + s = i
  · rw [c, pk_us]
    exact Or.inr ⟨r, hr, rfl⟩
  · rw [pk_un c]
    exact h6 s hs
theorem tf_AF_use {nK : Nat} {al xe : Nat → Int32} (h : tf_AF nK al xe) : tf_AF (nK + 1) al xe := fun k hk => h k (by omega)
theorem tf_AF_alias {nK : Nat} {al xe : Nat → Int32} (h : tf_AF nK al xe) {k n : Nat} {x : Int32} (hk : k < nK) (hn : n < 16) : tf_AF nK (upd al (k * 16 + n) x) xe := by
  intro j hj h16
  refine ⟨(h j hj h16).1, fun s hs => ?_⟩
  rw [pk_un (by omega)]
  exact (h j hj h16).2 s hs
theorem tf_AF_excl {nK : Nat} {al xe : Nat → Int32} (h : tf_AF nK al xe) {k : Nat} {x : Int32} (hk : k < nK) : tf_AF nK al (upd xe k x) := by
  intro j hj h16
  rw [pk_un (by omega)]
  exact h j hj h16
theorem tf_ex0 {nS nK : Nat} {al xe ex : Nat → Int32} (hS : nS ≤ 16) (h : tf_EX nS xe ex) (hf : tf_AF nK al xe) {k s : Nat} (hk : nK ≤ k) (h16 : k < 16) (hs : s < 16) : ex (k * 16 + s) = 0 := by
  have h3 := tf_EX_bit hS h h16 hs
  rw [(hf k hk h16).1] at h3
  refine h3.mp ?_
  have h4 := (tf_bit (e := 0) (by omega) hs).mpr (Nat.zero_testBit s)
  rw [nI_0] at h4
  exact h4
def tf_in (c : Int32) (n : Nat) : Prop := ∃ j, j < n ∧ c = nI j
theorem tf_ge0 {c : Int32} {n : Nat} (hn : n < 2 ^ 31) (h : nI n ≤ c) : ¬ c < 0 := fun z => Int32.lt_irrefl (Int32.lt_of_lt_of_le (Int32.lt_of_lt_of_le z (nI_pos' hn)) h)
theorem tf_neg {n : Nat} (hn : n < 2 ^ 31) : ¬ nI n < 0 := nI_pos hn
theorem tf_nin {c : Int32} {n : Nat} (hn : n < 2 ^ 31) (h : ¬ tf_in c n) : c < 0 ∨ (¬ c < 0 ∧ nI n ≤ c ∧ ¬ c < nI n) := by
  rcases pk_ix c hn with a | a | a
  · exact Or.inl a
  · exact Or.inr ⟨tf_ge0 hn a, a, Int32.not_lt.mpr a⟩
  · exact absurd a h
theorem tf_r1t {c : Int32} {n : Nat} {A B C : Prop} (hn : n < 2 ^ 31) (h : tf_in c n) (b : B) : (c < 0 → A) ∧ (¬ c < 0 → ((nI n ≤ c → C) ∧ (¬ nI n ≤ c → B))) := by
  obtain ⟨j, hj, rfl⟩ := h
  exact br_f (nI_pos (by omega)) (br_f (nI_ge hj hn) b)
theorem tf_r1f {c : Int32} {n : Nat} {A B : Prop} (hn : n < 2 ^ 31) (h : ¬ tf_in c n) (a : A) : (c < 0 → A) ∧ (¬ c < 0 → ((nI n ≤ c → A) ∧ (¬ nI n ≤ c → B))) := by
  rcases tf_nin hn h with e | ⟨e1, e2, e3⟩
  · exact br_t e a
  · exact br_f e1 (br_t e2 a)
theorem tf_r2t {c : Int32} {n : Nat} {A B C : Prop} (hn : n < 2 ^ 31) (h : tf_in c n) (b : B) : (c < 0 → A) ∧ (¬ c < 0 → ((c < nI n → B) ∧ (¬ c < nI n → C))) := by
  obtain ⟨j, hj, rfl⟩ := h
  exact br_f (nI_pos (by omega)) (br_t (nI_lt hj hn) b)
theorem tf_r2f {c : Int32} {n : Nat} {A B : Prop} (hn : n < 2 ^ 31) (h : ¬ tf_in c n) (a : A) : (c < 0 → A) ∧ (¬ c < 0 → ((c < nI n → B) ∧ (¬ c < nI n → A))) := by
  rcases tf_nin hn h with e | ⟨e1, e2, e3⟩
  · exact br_t e a
  · exact br_f e1 (br_f e3 a)
theorem tf_not {p q : Prop} (h : q → p) (hp : ¬ p) : ¬ q := fun z => hp (h z)
def tf_ow (c : Int32) (nC nT : Nat) : Prop := ∃ j, (j < nC ∨ (8 ≤ j ∧ j < 8 + nT)) ∧ c = nI j
theorem tf_ow_not {c : Int32} {nC nT : Nat} (hC : nC ≤ 8) (hT : nT ≤ 8) (h : ¬ tf_ow c nC nT) : ¬ tf_in c nC ∧ (c < 8 ∨ (¬ c < 8 ∧ nI (8 + nT) ≤ c ∧ ¬ c < nI (8 + nT))) := by
  refine ⟨fun ⟨j, hj, e⟩ => h ⟨j, Or.inl hj, e⟩, ?_⟩
  have h8 : nI 8 = 8 := rfl
  rcases pk_ix c (n := 8 + nT) (by omega) with a | a | ⟨j, hj, e⟩
  · left
    exact Int32.lt_of_lt_of_le a (by decide)
  · right
    refine ⟨?_, a, Int32.not_lt.mpr a⟩
    rw [Int32.not_lt, ← h8]
    exact Int32.le_trans (nI_le (by omega) (by omega)) a
  · left
    subst e
    rw [← h8, nI_ltI (by omega) (by omega)]
    rcases Nat.lt_or_ge j 8 with c | c
    · exact c
    · exact absurd ⟨j, Or.inr ⟨c, hj⟩, rfl⟩ h
theorem tf_ow_hi {j nC : Nat} (hC : nC ≤ 8) (h : 8 ≤ j) (h2 : j < 16) : ¬ tf_in (nI j) nC := by
  intro ⟨i, hi, e⟩
  have := (nI_eq (by omega) (by omega)).mp e
  omega
