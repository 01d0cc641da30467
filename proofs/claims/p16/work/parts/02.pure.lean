def tf_mg (a b : Int32) : Int32 := if b = -1 then a else if b = a then a else if a = -1 then b else -2
def tf_dc (tr ex T : Nat → Int32) (k s : Nat) : Int32 := if ex (k * 16 + s) = 0 then T ((tr k).toNatClampNeg * 16 + s) else -1
def tf_ac (tr al T : Nat → Int32) (k s : Nat) : Int32 := if al (k * 16 + s) = -1 then -1 else T ((tr k).toNatClampNeg * 16 + (al (k * 16 + s)).toNatClampNeg)
def tf_cs (ow tr ex al T : Nat → Int32) (o s : Nat) : Nat → Int32
  | 0 => -1
  | k + 1 => if ow k = nI o then tf_mg (tf_mg (tf_cs ow tr ex al T o s k) (tf_dc tr ex T k s)) (tf_ac tr al T k s) else tf_cs ow tr ex al T o s k
def tf_pf (own ow tr ex al T : Nat → Int32) (nK o s : Nat) : Int32 := if own (o * 16 + s) = -1 then tf_cs ow tr ex al T o s nK else own (o * 16 + s)
def tf_tb (own ow tr ex al : Nat → Int32) (nK : Nat) : Nat → Nat → Int32
  | 0 => fun _ => -1
  | t + 1 => fun i => if i / 16 = t then tf_pf own ow tr ex al (tf_tb own ow tr ex al nK t) nK (8 + t) (i % 16) else tf_tb own ow tr ex al nK t i
def tf_pv (own ow tr ex al : Nat → Int32) (nK i : Nat) : Int32 := tf_tb own ow tr ex al nK (i / 16 + 1) i
def tf_PR (own ow tr ex al : Nat → Int32) (nK o s : Nat) : Int32 := tf_pf own ow tr ex al (tf_pv own ow tr ex al nK) nK o s
def tf_CV (nT nS nK : Nat) (ow tr al : Nat → Int32) : Prop := ∀ k, k < nK → ∃ o u, ow k = nI o ∧ tr k = nI u ∧ o < 16 ∧ u < nT ∧ (8 ≤ o → u + 8 < o) ∧ ∀ s, s < nS → al (k * 16 + s) = -1 ∨ ∃ r, r < nS ∧ al (k * 16 + s) = nI r
theorem tf_cs_congr {nT nS nK : Nat} {ow tr ex al T T' : Nat → Int32} (hT : nT ≤ 8) (hS : nS ≤ 16) (hc : tf_CV nT nS nK ow tr al) {o s : Nat} (ho : o < 16) (hs : s < nS) (h : ∀ u r, u < nT → (8 ≤ o → u + 8 < o) → r < nS → T (u * 16 + r) = T' (u * 16 + r)) : ∀ n, n ≤ nK → tf_cs ow tr ex al T o s n = tf_cs ow tr ex al T' o s n := by
  intro n
  induction n with
  | zero => intro _; rfl
  | succ n ih =>
    intro hn
    have e := ih (by omega)
    obtain ⟨o', u, h1, h2, h3, h4, h5, h6⟩ := hc n (by omega)
    simp only [tf_cs]
    by_cases c : ow n = nI o
    · have eo : o' = o := (nI_eq (by omega) (by omega)).mp (h1.symm.trans c)
      subst eo
      have hd : tf_dc tr ex T n s = tf_dc tr ex T' n s := by
        unfold tf_dc
        rw [h2, nI_clamp (by omega), h u s h4 h5 hs]
      have ha : tf_ac tr al T n s = tf_ac tr al T' n s := by
        unfold tf_ac
        rcases h6 s hs with e1 | ⟨r, hr, e1⟩
        · rw [if_pos e1, if_pos e1]
        · rw [e1, h2, nI_clamp (by omega), nI_clamp (by omega), h u r h4 h5 hr]
      rw [if_pos c, if_pos c, e, hd, ha]
    · rw [if_neg c, if_neg c, e]
theorem tf_pf_congr {nT nS nK : Nat} {own ow tr ex al T T' : Nat → Int32} (hT : nT ≤ 8) (hS : nS ≤ 16) (hc : tf_CV nT nS nK ow tr al) {o s : Nat} (ho : o < 16) (hs : s < nS) (h : ∀ u r, u < nT → (8 ≤ o → u + 8 < o) → r < nS → T (u * 16 + r) = T' (u * 16 + r)) : tf_pf own ow tr ex al T nK o s = tf_pf own ow tr ex al T' nK o s := by
  unfold tf_pf
  rw [tf_cs_congr hT hS hc ho hs h nK (Nat.le_refl _)]
theorem tf_tb_pv {own ow tr ex al : Nat → Int32} {nK : Nat} : ∀ t i, i / 16 < t → tf_tb own ow tr ex al nK t i = tf_pv own ow tr ex al nK i := by
  intro t
  induction t with
  | zero => intro i h; omega
  | succ t ih =>
    intro i h
    by_cases c : i / 16 = t
    · unfold tf_pv
      rw [c]
    · simp only [tf_tb]
      rw [if_neg c]
      exact ih i (by omega)
theorem tf_pv_eq {own ow tr ex al : Nat → Int32} {nK : Nat} (t s : Nat) (hs : s < 16) : tf_pv own ow tr ex al nK (t * 16 + s) = tf_pf own ow tr ex al (tf_tb own ow tr ex al nK t) nK (8 + t) s := by
  have e1 : (t * 16 + s) / 16 = t := by omega
  have e2 : (t * 16 + s) % 16 = s := by omega
  unfold tf_pv
  rw [e1]
  simp only [tf_tb]
  rw [if_pos e1, e2]
theorem tf_pf_tr {nT nS nK : Nat} {own ow tr ex al T : Nat → Int32} (hT : nT ≤ 8) (hS : nS ≤ 16) (hc : tf_CV nT nS nK ow tr al) {t s : Nat} (ht : t < 8) (hs : s < nS) (h : ∀ u r, u < nT → u < t → r < nS → T (u * 16 + r) = tf_pv own ow tr ex al nK (u * 16 + r)) : tf_pf own ow tr ex al T nK (8 + t) s = tf_pv own ow tr ex al nK (t * 16 + s) := by
  rw [tf_pv_eq t s (by omega)]
  refine tf_pf_congr hT hS hc (by omega) hs (fun u r hu h8 hr => ?_)
  have h9 := h8 (by omega)
  rw [h u r hu (by omega) hr, tf_tb_pv t _ (by omega)]
theorem tf_PR_tr {nT nS nK : Nat} {own ow tr ex al : Nat → Int32} (hT : nT ≤ 8) (hS : nS ≤ 16) (hc : tf_CV nT nS nK ow tr al) {t s : Nat} (ht : t < 8) (hs : s < nS) : tf_PR own ow tr ex al nK (8 + t) s = tf_pv own ow tr ex al nK (t * 16 + s) := tf_pf_tr hT hS hc ht hs (fun _ _ _ _ _ => rfl)
/-- a body, no value, or a conflict -/
def tf_gv (nB : Nat) (v : Int32) : Prop := v = -1 ∨ v = -2 ∨ ∃ b, b < nB ∧ v = nI b
theorem tf_gv_mg {nB : Nat} {a b : Int32} (ha : tf_gv nB a) (hb : tf_gv nB b) : tf_gv nB (tf_mg a b) := by
  unfold tf_mg
  split
  · exact ha
  · split
    · exact ha
    · split
      · exact hb
      · exact Or.inr (Or.inl rfl)
theorem tf_gv_cs {nB : Nat} {ow tr ex al T : Nat → Int32} {o s : Nat} (h : ∀ i, tf_gv nB (T i)) : ∀ n, tf_gv nB (tf_cs ow tr ex al T o s n) := by
  intro n
  induction n with
  | zero => exact Or.inl rfl
  | succ n ih =>
    simp only [tf_cs]
    split
    · refine tf_gv_mg (tf_gv_mg ih ?_) ?_
      · unfold tf_dc
        split
        · exact h _
        · exact Or.inl rfl
      · unfold tf_ac
        split
        · exact Or.inl rfl
        · exact h _
    · exact ih
def tf_OV (nB : Nat) (own : Nat → Int32) : Prop := ∀ i, i < 256 → own i = -1 ∨ ∃ b, b < nB ∧ own i = nI b
theorem tf_gv_pf {nB : Nat} {own ow tr ex al T : Nat → Int32} {nK o s : Nat} (hO : tf_OV nB own) (ho : o < 16) (hs : s < 16) (h : ∀ i, tf_gv nB (T i)) : tf_gv nB (tf_pf own ow tr ex al T nK o s) := by
  unfold tf_pf
  split
  · exact tf_gv_cs h _
  · rcases hO (o * 16 + s) (by omega) with e | ⟨b, hb, e⟩
    · exact Or.inl e
    · exact Or.inr (Or.inr ⟨b, hb, e⟩)
theorem tf_gv_tb {nB : Nat} {own ow tr ex al : Nat → Int32} {nK : Nat} (hO : tf_OV nB own) : ∀ t, t ≤ 8 → ∀ i, tf_gv nB (tf_tb own ow tr ex al nK t i) := by
  intro t
  induction t with
  | zero => intro _ i; exact Or.inl rfl
  | succ t ih =>
    intro ht i
    simp only [tf_tb]
    split
    · exact tf_gv_pf hO (by omega) (by omega) (ih (by omega))
    · exact ih (by omega) i
theorem tf_gv_PR {nT nS nK nB : Nat} {own ow tr ex al : Nat → Int32} (hT : nT ≤ 8) (hS : nS ≤ 16) (hc : tf_CV nT nS nK ow tr al) (hO : tf_OV nB own) {o s : Nat} (ho : o < 16) (hs : s < nS) : tf_gv nB (tf_PR own ow tr ex al nK o s) := by
  unfold tf_PR
  rw [tf_pf_congr hT hS hc ho hs (T' := tf_tb own ow tr ex al nK nT) (fun u r hu _ hr => (tf_tb_pv nT _ (by omega)).symm)]
  exact tf_gv_pf hO ho (by omega) (tf_gv_tb hO nT hT)
def tf_fh (su P : Nat → Int32) : Nat → Int32 → Int32
  | 0, _ => -1
  | n + 1, x => if x = -1 then -1 else if P x.toNatClampNeg = -1 then tf_fh su P n (su x.toNatClampNeg) else x
def tf_SV (nC : Nat) (su : Nat → Int32) : Prop := ∀ c, c < nC → su c = -1 ∨ ∃ d, d < c ∧ su c = nI d
def tf_cl (nC : Nat) (x : Int32) : Prop := x = -1 ∨ ∃ c, c < nC ∧ x = nI c
theorem tf_m1 {n : Nat} (h : n < 2 ^ 31) : ¬ nI n = -1 := by
  intro e
  have h2 := congrArg Int32.toInt e
  rw [nI_toInt h, show (-1 : Int32).toInt = -1 from by decide] at h2
  omega
theorem tf_m2 {n : Nat} (h : n < 2 ^ 31) : ¬ nI n = -2 := by
  intro e
  have h2 := congrArg Int32.toInt e
  rw [nI_toInt h, show (-2 : Int32).toInt = -2 from by decide] at h2
  omega
theorem tf_SV_cl {nC : Nat} {su : Nat → Int32} (hs : tf_SV nC su) {c : Nat} (hc : c < nC) : tf_cl nC (su c) := by
  rcases hs c hc with e | ⟨d, hd, e⟩
  · exact Or.inl e
  · exact Or.inr ⟨d, by omega, e⟩
theorem tf_fh_cl {nC : Nat} {su P : Nat → Int32} (hC : nC ≤ 8) (hs : tf_SV nC su) : ∀ n x, tf_cl nC x → tf_fh su P n x = -1 ∨ ∃ h, h < nC ∧ tf_fh su P n x = nI h ∧ ¬ P h = -1 := by
  intro n
  induction n with
  | zero => intro x _; exact Or.inl rfl
  | succ n ih =>
    intro x hx
    simp only [tf_fh]
    rcases hx with e | ⟨c, hc, e⟩
    · rw [if_pos e]; exact Or.inl rfl
    · subst e
      rw [if_neg (tf_m1 (by omega)), nI_clamp (by omega)]
      by_cases p : P c = -1
      · rw [if_pos p]
        exact ih _ (tf_SV_cl hs hc)
      · rw [if_neg p]
        exact Or.inr ⟨c, hc, rfl, p⟩
theorem tf_and0 (e s : Nat) : e &&& 2 ^ s = 0 ↔ e.testBit s = false := by
  constructor
  · intro h
    have h2 : (e &&& 2 ^ s).testBit s = false := by rw [h]; exact Nat.zero_testBit s
    rw [Nat.testBit_and, Nat.testBit_two_pow_self, Bool.and_true] at h2
    exact h2
  · intro h
    apply Nat.eq_of_testBit_eq
    intro i
    rw [Nat.testBit_and, Nat.testBit_two_pow, Nat.zero_testBit]
    by_cases c : s = i
    · subst c
      rw [h, Bool.false_and]
    · rw [decide_eq_false c, Bool.and_false]
theorem tf_or (a b : Nat) : nI a ||| nI b = nI (a ||| b) := by
  apply Int32.toBitVec_inj.1
  show BitVec.ofNat 32 a ||| BitVec.ofNat 32 b = BitVec.ofNat 32 (a ||| b)
  apply BitVec.eq_of_getLsbD_eq
  intro i hi
  simp [hi]
theorem tf_sh1 {s : Nat} (hs : s < 16) : (1 : Int32) <<< (nI s &&& 31) = nI (2 ^ s) := (by decide +kernel : ∀ s, s < 16 → (1 : Int32) <<< (nI s &&& 31) = nI (2 ^ s)) s hs
theorem tf_p16 {n : Nat} (h : n ≤ 16) : 2 ^ n ≤ 65536 := Nat.pow_le_pow_right (n := 2) (by decide) h
theorem tf_bit {e s : Nat} (he : e < 65536) (hs : s < 16) : (nI e &&& ((1 : Int32) <<< (nI s &&& 31))) = 0 ↔ e.testBit s = false := by
  have h1 : e &&& 2 ^ s < 65536 := Nat.lt_of_le_of_lt Nat.and_le_left he
  rw [tf_sh1 hs, nx_and, ← nI_0, nI_eq (by omega) (by omega), tf_and0]
theorem tf_sum1 {e s : Nat} (hs : s < 16) (h : e.testBit s = true) : nI (e % 2 ^ s) + ((1 : Int32) <<< (nI s &&& 31)) = nI (e % 2 ^ (s + 1)) := by
  have h2 : e / 2 ^ s % 2 = 1 := by
    rw [Nat.testBit_eq_decide_div_mod_eq] at h
    exact of_decide_eq_true h
  rw [tf_sh1 hs, nI_add, Nat.mod_pow_succ, h2, Nat.mul_one]
theorem tf_sum0 {e s : Nat} (h : e.testBit s = false) : e % 2 ^ (s + 1) = e % 2 ^ s := by
  have h2 : e / 2 ^ s % 2 = 0 := by
    rw [Nat.testBit_eq_decide_div_mod_eq] at h
    have h3 := of_decide_eq_false h
    generalize e / 2 ^ s = z at h3
    omega
  rw [Nat.mod_pow_succ, h2, Nat.mul_zero, Nat.add_zero]
def tf_EX (nS : Nat) (exX ex : Nat → Int32) : Prop := ∀ k, k < 16 → ∃ e, e < 2 ^ nS ∧ exX k = nI e ∧ ∀ s, s < 16 → ex (k * 16 + s) = if e.testBit s = true then 1 else 0
theorem tf_EX_bit {nS : Nat} {exX ex : Nat → Int32} (hS : nS ≤ 16) (h : tf_EX nS exX ex) {k s : Nat} (hk : k < 16) (hs : s < 16) : (exX k &&& ((1 : Int32) <<< (nI s &&& 31))) = 0 ↔ ex (k * 16 + s) = 0 := by
  obtain ⟨e, he, h1, h2⟩ := h k hk
  have h3 := tf_p16 hS
  rw [h1, h2 s hs, tf_bit (by omega) hs]
  cases e.testBit s
  · exact ⟨fun _ => rfl, fun _ => rfl⟩
  · exact ⟨fun z => absurd z (by decide), fun z => absurd z (by decide)⟩
theorem tf_EX_upd {nS : Nat} {exX ex : Nat → Int32} (hS : nS ≤ 16) (h : tf_EX nS exX ex) {k s : Nat} (hk : k < 16) (hs : s < nS) : tf_EX nS (upd exX k (exX k ||| ((1 : Int32) <<< (nI s &&& 31)))) (upd ex (k * 16 + s) 1) := by
  intro j hj
  obtain ⟨e, he, h1, h2⟩ := h j hj
  by_cases c : j = k
  · subst c
    refine ⟨e ||| 2 ^ s, Nat.or_lt_two_pow he (Nat.pow_lt_pow_right (by decide) hs), ?_, ?_⟩
    · rw [pk_us, h1, tf_sh1 (by omega), tf_or]
    · intro r hr
      rw [Nat.testBit_or, Nat.testBit_two_pow]
      by_cases c2 : r = s
      · subst c2
        rw [pk_us]
        simp
      · rw [pk_un (by omega), h2 r hr, decide_eq_false (fun z => c2 z.symm), Bool.or_false]
  · refine ⟨e, he, ?_, ?_⟩
    · rw [pk_un c, h1]
    · intro r hr
      rw [pk_un (by omega), h2 r hr]
theorem tf_uid {a : Nat → Int32} {i : Nat} {x : Int32} (h : a i = x) : upd a i x = a := by
  funext j
  unfold upd
  split
  · rename_i c
    rw [c, h]
  · rfl
