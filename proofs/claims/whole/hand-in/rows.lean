section
theorem pk_us {f : Nat → Int32} {k : Nat} {x : Int32} : upd f k x k = x := if_pos rfl
theorem pk_un {f : Nat → Int32} {k j : Nat} {x : Int32} (h : j ≠ k) : upd f k x j = f j := if_neg h
theorem pk_sub {a b : Nat} (h : b ≤ a) : nI a - nI b = nI (a - b) := by
  obtain ⟨c, rfl⟩ : ∃ c, a = c + b := ⟨a - b, by omega⟩
  rw [← nI_add, Int32.add_sub_cancel, Nat.add_sub_cancel]
theorem pk_m1 (n : Nat) : nI (n + 1) + (-1) = nI n := by
  rw [← nI_1, Int32.add_assoc, show (1 : Int32) + (-1) = 0 from rfl, Int32.add_zero]
theorem pk_mul (a b : Nat) : nI a * nI b = nI (a * b) := (Int32.ofNat_mul a b).symm
theorem pk_ix (x : Int32) {n : Nat} (hn : n < 2 ^ 31) : x < 0 ∨ nI n ≤ x ∨ ∃ j : Nat, j < n ∧ x = nI j := by
  by_cases h : x < 0
  · exact Or.inl h
  · obtain ⟨j, hj, rfl⟩ := nI_of h
    by_cases h2 : j < n
    · exact Or.inr (Or.inr ⟨j, h2, rfl⟩)
    · exact Or.inr (Or.inl (nI_le (by omega) hj))
theorem pk_le {x y : Int32} {A B : Prop} (a b : Nat) (f : a ≤ b → A) (g : b < a → B) (hx : x = nI a := by rfl) (hy : y = nI b := by rfl) (ha : a < 2 ^ 31 := by omega) (hb : b < 2 ^ 31 := by omega) : (x ≤ y → A) ∧ (¬ x ≤ y → B) := by
  subst hx hy
  rw [nI_leI ha hb]
  exact ⟨f, fun z => g (by omega)⟩
theorem pk_lt {x y : Int32} {A B : Prop} (a b : Nat) (f : a < b → A) (g : b ≤ a → B) (hx : x = nI a := by rfl) (hy : y = nI b := by rfl) (ha : a < 2 ^ 31 := by omega) (hb : b < 2 ^ 31 := by omega) : (x < y → A) ∧ (¬ x < y → B) := by
  subst hx hy
  rw [nI_ltI ha hb]
  exact ⟨f, fun z => g (by omega)⟩
theorem pk_eq {x y : Int32} {A B : Prop} (a b : Nat) (f : a = b → A) (g : a ≠ b → B) (hx : x = nI a := by rfl) (hy : y = nI b := by rfl) (ha : a < 2 ^ 31 := by omega) (hb : b < 2 ^ 31 := by omega) : (x = y → A) ∧ (¬ x = y → B) := by
  subst hx hy
  rw [nI_eq ha hb]
  exact ⟨f, g⟩
theorem pk_in {x : Int32} (n N : Nat) (h : n < N) (hx : x = nI n := by rfl) (hN : N < 2 ^ 31 := by omega) : vp_in x N := by
  subst hx
  exact vp_in_nI h hN
theorem pk_cl {x : Int32} (n : Nat) (hx : x = nI n := by rfl) (h : n < 2 ^ 31 := by omega) : x.toNatClampNeg = n := by
  subst hx
  exact nI_clamp h
theorem pk_tn {n : Nat} (h : n < 2 ^ 32) : (nI n).toBitVec.toNat = n := Nat.mod_eq_of_lt h
theorem nx_and (a b : Nat) : nI a &&& nI b = nI (a &&& b) := by
  apply Int32.toBitVec_inj.1
  show BitVec.ofNat 32 a &&& BitVec.ofNat 32 b = BitVec.ofNat 32 (a &&& b)
  apply BitVec.eq_of_getLsbD_eq
  intro i hi
  simp [hi]
end
section
/-! the pure picture: what an owner provides -/
def tf_mg (a b : Int32) : Int32 := if b = -1 then a else if b = a then a else if a = -1 then b else -2
def tf_dc (tr ex T : Nat → Int32) (k s : Nat) : Int32 := if ex (k * 16 + s) = 0 then T ((tr k).toNatClampNeg * 16 + s) else -1
def tf_ac (tr al T : Nat → Int32) (k s : Nat) : Int32 := if al (k * 16 + s) = -1 then -1 else T ((tr k).toNatClampNeg * 16 + (al (k * 16 + s)).toNatClampNeg)
def tf_cs (ow tr ex al T : Nat → Int32) (o s : Nat) : Nat → Int32
  | 0 => -1
  | k + 1 => if ow k = nI o then tf_mg (tf_mg (tf_cs ow tr ex al T o s k) (tf_dc tr ex T k s)) (tf_ac tr al T k s) else tf_cs ow tr ex al T o s k
def tf_pf (own ow tr ex al T : Nat → Int32) (nK o s : Nat) : Int32 := if own (o * 16 + s) = -1 then tf_cs ow tr ex al T o s nK else own (o * 16 + s)
def tf_tb (own ow tr ex al : Nat → Int32) (nK : Nat) : Nat → Nat → Int32
  | 0 => fun _ => -1
  | t + 1 => fun i => if i / 16 = t then tf_pf own ow tr ex al (tf_tb own ow tr ex al nK t) nK (8 + t) (i % 16) else tf_tb own ow tr ex al nK t i
def tf_pv (own ow tr ex al : Nat → Int32) (nK i : Nat) : Int32 := tf_tb own ow tr ex al nK (i / 16 + 1) i
def tf_PR (own ow tr ex al : Nat → Int32) (nK o s : Nat) : Int32 := tf_pf own ow tr ex al (tf_pv own ow tr ex al nK) nK o s
def tf_CV (nT nS nK : Nat) (ow tr al : Nat → Int32) : Prop := ∀ k, k < nK → ∃ o u, ow k = nI o ∧ tr k = nI u ∧ o < 16 ∧ u < nT ∧ (8 ≤ o → u + 8 < o) ∧ ∀ s, s < nS → al (k * 16 + s) = -1 ∨ ∃ r, r < nS ∧ al (k * 16 + s) = nI r
theorem tf_cs_congr {nT nS nK : Nat} {ow tr ex al T T' : Nat → Int32} (hT : nT ≤ 8) (hS : nS ≤ 16) (hc : tf_CV nT nS nK ow tr al) {o s : Nat} (ho : o < 16) (hs : s < nS) (h : ∀ u r, u < nT → (8 ≤ o → u + 8 < o) → r < nS → T (u * 16 + r) = T' (u * 16 + r)) : ∀ n, n ≤ nK → tf_cs ow tr ex al T o s n = tf_cs ow tr ex al T' o s n := by
  intro n
  induction n with
  | zero => intro _; rfl
  | succ n ih =>
    intro hn
    have e := ih (by omega)
    obtain ⟨o', u, h1, h2, h3, h4, h5, h6⟩ := hc n (by omega)
    simp only [tf_cs]
    by_cases c : ow n = nI o
    · have eo : o' = o := (nI_eq (by omega) (by omega)).mp (h1.symm.trans c)
      subst eo
      have hd : tf_dc tr ex T n s = tf_dc tr ex T' n s := by
        unfold tf_dc
        rw [h2, nI_clamp (by omega), h u s h4 h5 hs]
      have ha : tf_ac tr al T n s = tf_ac tr al T' n s := by
        unfold tf_ac
        rcases h6 s hs with e1 | ⟨r, hr, e1⟩
        · rw [if_pos e1, if_pos e1]
        · rw [e1, h2, nI_clamp (by omega), nI_clamp (by omega), h u r h4 h5 hr]
      rw [if_pos c, if_pos c, e, hd, ha]
    · rw [if_neg c, if_neg c, e]
theorem tf_pf_congr {nT nS nK : Nat} {own ow tr ex al T T' : Nat → Int32} (hT : nT ≤ 8) (hS : nS ≤ 16) (hc : tf_CV nT nS nK ow tr al) {o s : Nat} (ho : o < 16) (hs : s < nS) (h : ∀ u r, u < nT → (8 ≤ o → u + 8 < o) → r < nS → T (u * 16 + r) = T' (u * 16 + r)) : tf_pf own ow tr ex al T nK o s = tf_pf own ow tr ex al T' nK o s := by
  unfold tf_pf
  rw [tf_cs_congr hT hS hc ho hs h nK (Nat.le_refl _)]
theorem tf_tb_pv {own ow tr ex al : Nat → Int32} {nK : Nat} : ∀ t i, i / 16 < t → tf_tb own ow tr ex al nK t i = tf_pv own ow tr ex al nK i := by
  intro t
  induction t with
  | zero => intro i h; omega
  | succ t ih =>
    intro i h
    by_cases c : i / 16 = t
    · unfold tf_pv
      rw [c]
    · simp only [tf_tb]
      rw [if_neg c]
      exact ih i (by omega)
theorem tf_pv_eq {own ow tr ex al : Nat → Int32} {nK : Nat} (t s : Nat) (hs : s < 16) : tf_pv own ow tr ex al nK (t * 16 + s) = tf_pf own ow tr ex al (tf_tb own ow tr ex al nK t) nK (8 + t) s := by
  have e1 : (t * 16 + s) / 16 = t := by omega
  have e2 : (t * 16 + s) % 16 = s := by omega
  unfold tf_pv
  rw [e1]
  simp only [tf_tb]
  rw [if_pos e1, e2]
theorem tf_pf_tr {nT nS nK : Nat} {own ow tr ex al T : Nat → Int32} (hT : nT ≤ 8) (hS : nS ≤ 16) (hc : tf_CV nT nS nK ow tr al) {t s : Nat} (ht : t < 8) (hs : s < nS) (h : ∀ u r, u < nT → u < t → r < nS → T (u * 16 + r) = tf_pv own ow tr ex al nK (u * 16 + r)) : tf_pf own ow tr ex al T nK (8 + t) s = tf_pv own ow tr ex al nK (t * 16 + s) := by
  rw [tf_pv_eq t s (by omega)]
  refine tf_pf_congr hT hS hc (by omega) hs (fun u r hu h8 hr => ?_)
  have h9 := h8 (by omega)
  rw [h u r hu (by omega) hr, tf_tb_pv t _ (by omega)]
theorem tf_PR_tr {nT nS nK : Nat} {own ow tr ex al : Nat → Int32} (hT : nT ≤ 8) (hS : nS ≤ 16) (hc : tf_CV nT nS nK ow tr al) {t s : Nat} (ht : t < 8) (hs : s < nS) : tf_PR own ow tr ex al nK (8 + t) s = tf_pv own ow tr ex al nK (t * 16 + s) := tf_pf_tr hT hS hc ht hs (fun _ _ _ _ _ => rfl)
/-- a body, no value, or a conflict -/
def tf_gv (nB : Nat) (v : Int32) : Prop := v = -1 ∨ v = -2 ∨ ∃ b, b < nB ∧ v = nI b
theorem tf_gv_mg {nB : Nat} {a b : Int32} (ha : tf_gv nB a) (hb : tf_gv nB b) : tf_gv nB (tf_mg a b) := by
  unfold tf_mg
  split
  · exact ha
  · split
    · exact ha
    · split
      · exact hb
      · exact Or.inr (Or.inl rfl)
theorem tf_gv_cs {nB : Nat} {ow tr ex al T : Nat → Int32} {o s : Nat} (h : ∀ i, tf_gv nB (T i)) : ∀ n, tf_gv nB (tf_cs ow tr ex al T o s n) := by
  intro n
  induction n with
  | zero => exact Or.inl rfl
  | succ n ih =>
    simp only [tf_cs]
    split
    · refine tf_gv_mg (tf_gv_mg ih ?_) ?_
      · unfold tf_dc
        split
        · exact h _
        · exact Or.inl rfl
      · unfold tf_ac
        split
        · exact Or.inl rfl
        · exact h _
    · exact ih
def tf_OV (nB : Nat) (own : Nat → Int32) : Prop := ∀ i, i < 256 → own i = -1 ∨ ∃ b, b < nB ∧ own i = nI b
theorem tf_gv_pf {nB : Nat} {own ow tr ex al T : Nat → Int32} {nK o s : Nat} (hO : tf_OV nB own) (ho : o < 16) (hs : s < 16) (h : ∀ i, tf_gv nB (T i)) : tf_gv nB (tf_pf own ow tr ex al T nK o s) := by
  unfold tf_pf
  split
  · exact tf_gv_cs h _
  · rcases hO (o * 16 + s) (by omega) with e | ⟨b, hb, e⟩
    · exact Or.inl e
    · exact Or.inr (Or.inr ⟨b, hb, e⟩)
theorem tf_gv_tb {nB : Nat} {own ow tr ex al : Nat → Int32} {nK : Nat} (hO : tf_OV nB own) : ∀ t, t ≤ 8 → ∀ i, tf_gv nB (tf_tb own ow tr ex al nK t i) := by
  intro t
  induction t with
  | zero => intro _ i; exact Or.inl rfl
  | succ t ih =>
    intro ht i
    simp only [tf_tb]
    split
    · exact tf_gv_pf hO (by omega) (by omega) (ih (by omega))
    · exact ih (by omega) i
theorem tf_gv_PR {nT nS nK nB : Nat} {own ow tr ex al : Nat → Int32} (hT : nT ≤ 8) (hS : nS ≤ 16) (hc : tf_CV nT nS nK ow tr al) (hO : tf_OV nB own) {o s : Nat} (ho : o < 16) (hs : s < nS) : tf_gv nB (tf_PR own ow tr ex al nK o s) := by
  unfold tf_PR
  rw [tf_pf_congr hT hS hc ho hs (T' := tf_tb own ow tr ex al nK nT) (fun u r hu _ hr => (tf_tb_pv nT _ (by omega)).symm)]
  exact tf_gv_pf hO ho (by omega) (tf_gv_tb hO nT hT)
/-! the walk upward -/
def tf_fh (su P : Nat → Int32) : Nat → Int32 → Int32
  | 0, _ => -1
  | n + 1, x => if x = -1 then -1 else if P x.toNatClampNeg = -1 then tf_fh su P n (su x.toNatClampNeg) else x
def tf_SV (nC : Nat) (su : Nat → Int32) : Prop := ∀ c, c < nC → su c = -1 ∨ ∃ d, d < c ∧ su c = nI d
def tf_cl (nC : Nat) (x : Int32) : Prop := x = -1 ∨ ∃ c, c < nC ∧ x = nI c
theorem tf_m1 {n : Nat} (h : n < 2 ^ 31) : ¬ nI n = -1 := by
  intro e
  have h2 := congrArg Int32.toInt e
  rw [nI_toInt h, show (-1 : Int32).toInt = -1 from by decide] at h2
  omega
theorem tf_m2 {n : Nat} (h : n < 2 ^ 31) : ¬ nI n = -2 := by
  intro e
  have h2 := congrArg Int32.toInt e
  rw [nI_toInt h, show (-2 : Int32).toInt = -2 from by decide] at h2
  omega
theorem tf_SV_cl {nC : Nat} {su : Nat → Int32} (hs : tf_SV nC su) {c : Nat} (hc : c < nC) : tf_cl nC (su c) := by
  rcases hs c hc with e | ⟨d, hd, e⟩
  · exact Or.inl e
  · exact Or.inr ⟨d, by omega, e⟩
theorem tf_fh_cl {nC : Nat} {su P : Nat → Int32} (hC : nC ≤ 8) (hs : tf_SV nC su) : ∀ n x, tf_cl nC x → tf_fh su P n x = -1 ∨ ∃ h, h < nC ∧ tf_fh su P n x = nI h ∧ ¬ P h = -1 := by
  intro n
  induction n with
  | zero => intro x _; exact Or.inl rfl
  | succ n ih =>
    intro x hx
    simp only [tf_fh]
    rcases hx with e | ⟨c, hc, e⟩
    · rw [if_pos e]; exact Or.inl rfl
    · subst e
      rw [if_neg (tf_m1 (by omega)), nI_clamp (by omega)]
      by_cases p : P c = -1
      · rw [if_pos p]
        exact ih _ (tf_SV_cl hs hc)
      · rw [if_neg p]
        exact Or.inr ⟨c, hc, rfl, p⟩
/-! excluded selectors: bits against cells -/
theorem tf_and0 (e s : Nat) : e &&& 2 ^ s = 0 ↔ e.testBit s = false := by
  constructor
  · intro h
    have h2 : (e &&& 2 ^ s).testBit s = false := by rw [h]; exact Nat.zero_testBit s
    rw [Nat.testBit_and, Nat.testBit_two_pow_self, Bool.and_true] at h2
    exact h2
  · intro h
    apply Nat.eq_of_testBit_eq
    intro i
    rw [Nat.testBit_and, Nat.testBit_two_pow, Nat.zero_testBit]
    by_cases c : s = i
    · subst c
      rw [h, Bool.false_and]
    · rw [decide_eq_false c, Bool.and_false]
theorem tf_or (a b : Nat) : nI a ||| nI b = nI (a ||| b) := by
  apply Int32.toBitVec_inj.1
  show BitVec.ofNat 32 a ||| BitVec.ofNat 32 b = BitVec.ofNat 32 (a ||| b)
  apply BitVec.eq_of_getLsbD_eq
  intro i hi
  simp [hi]
theorem tf_sh1 {s : Nat} (hs : s < 16) : (1 : Int32) <<< (nI s &&& 31) = nI (2 ^ s) := (by decide +kernel : ∀ s, s < 16 → (1 : Int32) <<< (nI s &&& 31) = nI (2 ^ s)) s hs
theorem tf_p16 {n : Nat} (h : n ≤ 16) : 2 ^ n ≤ 65536 := Nat.pow_le_pow_right (n := 2) (by decide) h
theorem tf_bit {e s : Nat} (he : e < 65536) (hs : s < 16) : (nI e &&& ((1 : Int32) <<< (nI s &&& 31))) = 0 ↔ e.testBit s = false := by
  have h1 : e &&& 2 ^ s < 65536 := Nat.lt_of_le_of_lt Nat.and_le_left he
  rw [tf_sh1 hs, nx_and, ← nI_0, nI_eq (by omega) (by omega), tf_and0]
theorem tf_sum1 {e s : Nat} (hs : s < 16) (h : e.testBit s = true) : nI (e % 2 ^ s) + ((1 : Int32) <<< (nI s &&& 31)) = nI (e % 2 ^ (s + 1)) := by
  have h2 : e / 2 ^ s % 2 = 1 := by
    rw [Nat.testBit_eq_decide_div_mod_eq] at h
    exact of_decide_eq_true h
  rw [tf_sh1 hs, nI_add, Nat.mod_pow_succ, h2, Nat.mul_one]
theorem tf_sum0 {e s : Nat} (h : e.testBit s = false) : e % 2 ^ (s + 1) = e % 2 ^ s := by
  have h2 : e / 2 ^ s % 2 = 0 := by
    rw [Nat.testBit_eq_decide_div_mod_eq] at h
    have h3 := of_decide_eq_false h
    generalize e / 2 ^ s = z at h3
    omega
  rw [Nat.mod_pow_succ, h2, Nat.mul_zero, Nat.add_zero]
def tf_EX (nS : Nat) (exX ex : Nat → Int32) : Prop := ∀ k, k < 16 → ∃ e, e < 2 ^ nS ∧ exX k = nI e ∧ ∀ s, s < 16 → ex (k * 16 + s) = if e.testBit s = true then 1 else 0
theorem tf_EX_bit {nS : Nat} {exX ex : Nat → Int32} (hS : nS ≤ 16) (h : tf_EX nS exX ex) {k s : Nat} (hk : k < 16) (hs : s < 16) : (exX k &&& ((1 : Int32) <<< (nI s &&& 31))) = 0 ↔ ex (k * 16 + s) = 0 := by
  obtain ⟨e, he, h1, h2⟩ := h k hk
  have h3 := tf_p16 hS
  rw [h1, h2 s hs, tf_bit (by omega) hs]
  cases e.testBit s
  · exact ⟨fun _ => rfl, fun _ => rfl⟩
  · exact ⟨fun z => absurd z (by decide), fun z => absurd z (by decide)⟩
theorem tf_EX_upd {nS : Nat} {exX ex : Nat → Int32} (hS : nS ≤ 16) (h : tf_EX nS exX ex) {k s : Nat} (hk : k < 16) (hs : s < nS) : tf_EX nS (upd exX k (exX k ||| ((1 : Int32) <<< (nI s &&& 31)))) (upd ex (k * 16 + s) 1) := by
  intro j hj
  obtain ⟨e, he, h1, h2⟩ := h j hj
  by_cases c : j = k
  · subst c
    refine ⟨e ||| 2 ^ s, Nat.or_lt_two_pow he (Nat.pow_lt_pow_right (by decide) hs), ?_, ?_⟩
    · rw [pk_us, h1, tf_sh1 (by omega), tf_or]
    · intro r hr
      rw [Nat.testBit_or, Nat.testBit_two_pow]
      by_cases c2 : r = s
      · subst c2
        rw [pk_us]
        simp
      · rw [pk_un (by omega), h2 r hr, decide_eq_false (fun z => c2 z.symm), Bool.or_false]
  · refine ⟨e, he, ?_, ?_⟩
    · rw [pk_un c, h1]
    · intro r hr
      rw [pk_un (by omega), h2 r hr]
theorem tf_uid {a : Nat → Int32} {i : Nat} {x : Int32} (h : a i = x) : upd a i x = a := by
  funext j
  unfold upd
  split
  · rename_i c
    rw [c, h]
  · rfl
end
section
/-! the relation -/
def tf_LV (nB : Nat) (L : Nat → Int32) : Prop := (∀ b, b < 16 → ∃ l, l ≤ 16 ∧ L b = nI l) ∧ ∀ b, nB ≤ b → b < 16 → L b = 0
def tf_CE (nS nB : Nat) (L op kk : Nat → Int32) : Prop := ∀ b l i, b < nB → l ≤ 16 → L b = nI l → i < l → ∃ o, o ≤ 8 ∧ op (b * 16 + i) = nI o ∧ ((o = 6 ∨ o = 7) → ∃ s, s < nS ∧ kk (b * 16 + i) = nI s)
def tf_AF (nK : Nat) (al xe : Nat → Int32) : Prop := ∀ k, nK ≤ k → k < 16 → xe k = 0 ∧ ∀ s, s < 16 → al (k * 16 + s) = -1
def tf_FL (nC nT nS nK : Nat) (own ow tr ex al fl : Nat → Int32) : Prop := ∀ o s, (o < nC ∨ (8 ≤ o ∧ o < 8 + nT)) → s < nS → fl (o * 16 + s) = tf_PR own ow tr ex al nK o s
def tf_NU (nC nT nS nD nB nK : Nat) : Prop := (1 ≤ nC ∧ nC ≤ 8) ∧ (1 ≤ nT ∧ nT ≤ 8) ∧ (1 ≤ nS ∧ nS ≤ 16) ∧ (1 ≤ nD ∧ nD ≤ 16) ∧ nB ≤ 16 ∧ nK ≤ 16
def tf_Ok (nC nT nS nD nB nK : Nat) (L op kk su own ow tr xe ex al fl : Nat → Int32) : Prop := tf_NU nC nT nS nD nB nK ∧ tf_LV nB L ∧ tf_CE nS nB L op kk ∧ tf_SV nC su ∧ tf_OV nB own ∧ tf_CV nT nS nK ow tr al ∧ tf_AF nK al xe ∧ tf_EX nS xe ex ∧ tf_FL nC nT nS nK own ow tr ex al fl
def i_Rel (_ : Nat) (u : SX) (v : SY) : Prop := ∃ (nC nT nS nD nB nK : Nat) (ls rr rc sp fc dp rs : Int32) (L op kk su own ow tr xe ex al fl tp fA fC fT fP fB fH : Nat → Int32), u = (nI nC, nI nT, nI nS, nI nD, nI nB, nI nK, ls, rr, rc, sp, fc, L, op, kk, su, own, ow, tr, xe, al, fl, fA, fC, fT, fP, fB, fH) ∧ v = (nI nC, nI nT, nI nS, nI nD, nI nB, nI nK, dp, rs, ls, op, kk, L, su, own, ow, tr, ex, al, tp, fB, fH, fA, fC, fT, fP) ∧ tf_Ok nC nT nS nD nB nK L op kk su own ow tr xe ex al fl
theorem tf_mk {k : Nat} {nC nT nS nD nB nK : Nat} {ls rr rc sp fc dp rs : Int32} {L op kk su own ow tr xe ex al fl tp fA fC fT fP fB fH : Nat → Int32} (h : tf_Ok nC nT nS nD nB nK L op kk su own ow tr xe ex al fl) : i_Rel k (nI nC, nI nT, nI nS, nI nD, nI nB, nI nK, ls, rr, rc, sp, fc, L, op, kk, su, own, ow, tr, xe, al, fl, fA, fC, fT, fP, fB, fH) (nI nC, nI nT, nI nS, nI nD, nI nB, nI nK, dp, rs, ls, op, kk, L, su, own, ow, tr, ex, al, tp, fB, fH, fA, fC, fT, fP) := ⟨nC, nT, nS, nD, nB, nK, ls, rr, rc, sp, fc, dp, rs, L, op, kk, su, own, ow, tr, xe, ex, al, fl, tp, fA, fC, fT, fP, fB, fH, rfl, rfl, h⟩
/-! what keeps it -/
theorem tf_OV_mono {nB : Nat} {own : Nat → Int32} (h : tf_OV nB own) : tf_OV (nB + 1) own := by
  intro i hi
  rcases h i hi with e | ⟨b, hb, e⟩
  · exact Or.inl e
  · exact Or.inr ⟨b, by omega, e⟩
theorem tf_CE_begin {nS nB : Nat} {L op kk : Nat → Int32} (hB : nB < 16) (hL : tf_LV nB L) (h : tf_CE nS nB L op kk) : tf_CE nS (nB + 1) L op kk := by
  intro b l i h1 h2 h3 h4
  by_cases c : b < nB
  · exact h b l i c h2 h3 h4
  · have e : b = nB := by omega
    subst e
    have e2 := hL.2 b (Nat.le_refl _) hB
    rw [e2, ← nI_0] at h3
    have e3 := (nI_eq (by omega) (by omega)).mp h3
    omega
theorem tf_LV_begin {nB : Nat} {L : Nat → Int32} (h : tf_LV nB L) : tf_LV (nB + 1) L := ⟨h.1, fun b hb => h.2 b (by omega)⟩
theorem tf_LV_emit {nB : Nat} {L : Nat → Int32} (h : tf_LV nB L) {b l : Nat} (hb : b < nB) (hl : l < 16) : tf_LV nB (upd L b (nI (l + 1))) := by
  constructor
  · intro c hc
    by_cases e : c = b
    · subst e
      exact ⟨l + 1, by omega, pk_us⟩
    · rw [pk_un e]
      exact h.1 c hc
  · intro c hc h16
    rw [pk_un (by omega)]
    exact h.2 c hc h16
theorem tf_CE_emit {nS nB : Nat} {L op kk : Nat → Int32} (h : tf_CE nS nB L op kk) {b l o : Nat} {k : Int32} (hb : b < nB) (hl : l < 16) (e : L b = nI l) (ho : o ≤ 8) (hk : (o = 6 ∨ o = 7) → ∃ s, s < nS ∧ k = nI s) : tf_CE nS nB (upd L b (nI (l + 1))) (upd op (b * 16 + l) (nI o)) (upd kk (b * 16 + l) k) := by
  intro b' l' i h1 h2 h3 h4
  by_cases c : b' = b
  · subst c
    rw [pk_us] at h3
    have e2 : l + 1 = l' := (nI_eq (by omega) (by omega)).mp h3
    by_cases c2 : i = l
    · subst c2
      rw [pk_us, pk_us]
      exact ⟨o, ho, rfl, hk⟩
    · rw [pk_un (by omega), pk_un (by omega)]
      exact h b' l i h1 (by omega) e (by omega)
  · rw [pk_un c] at h3
    rw [pk_un (by omega), pk_un (by omega)]
    exact h b' l' i h1 h2 h3 h4
theorem tf_SV_set {nC : Nat} {su : Nat → Int32} (h : tf_SV nC su) {c : Nat} {x : Int32} (hx : x = -1 ∨ ∃ d, d < c ∧ x = nI d) : tf_SV nC (upd su c x) := by
  intro j hj
  by_cases e : j = c
  · subst e
    rw [pk_us]
    exact hx
  · rw [pk_un e]
    exact h j hj
theorem tf_OV_set {nB : Nat} {own : Nat → Int32} (h : tf_OV nB own) {i : Nat} {x : Int32} (hx : x = -1 ∨ ∃ b, b < nB ∧ x = nI b) : tf_OV nB (upd own i x) := by
  intro j hj
  by_cases e : j = i
  · subst e
    rw [pk_us]
    exact hx
  · rw [pk_un e]
    exact h j hj
theorem tf_CV_use {nT nS nK : Nat} {ow tr al : Nat → Int32} (hS : nS ≤ 16) (h : tf_CV nT nS nK ow tr al) (hf : ∀ s, s < 16 → al (nK * 16 + s) = -1) {o u : Nat} (ho : o < 16) (hu : u < nT) (hou : 8 ≤ o → u + 8 < o) : tf_CV nT nS (nK + 1) (upd ow nK (nI o)) (upd tr nK (nI u)) al := by
  intro k hk
  by_cases c : k = nK
  · subst c
    exact ⟨o, u, pk_us, pk_us, ho, hu, hou, fun s hs => Or.inl (hf s (by omega))⟩
  · rw [pk_un c, pk_un c]
    exact h k (by omega)
theorem tf_CV_alias {nT nS nK : Nat} {ow tr al : Nat → Int32} (h : tf_CV nT nS nK ow tr al) {i r : Nat} (hr : r < nS) : tf_CV nT nS nK ow tr (upd al i (nI r)) := by
  intro j hj
  obtain ⟨o, u, h1, h2, h3, h4, h5, h6⟩ := h j hj
  refine ⟨o, u, h1, h2, h3, h4, h5, fun s hs => ?_⟩
  by_cases c : j * 16 + s = i
  · rw [c, pk_us]
    exact Or.inr ⟨r, hr, rfl⟩
  · rw [pk_un c]
    exact h6 s hs
theorem tf_AF_use {nK : Nat} {al xe : Nat → Int32} (h : tf_AF nK al xe) : tf_AF (nK + 1) al xe := fun k hk => h k (by omega)
theorem tf_AF_alias {nK : Nat} {al xe : Nat → Int32} (h : tf_AF nK al xe) {k n : Nat} {x : Int32} (hk : k < nK) (hn : n < 16) : tf_AF nK (upd al (k * 16 + n) x) xe := by
  intro j hj h16
  refine ⟨(h j hj h16).1, fun s hs => ?_⟩
  rw [pk_un (by omega)]
  exact (h j hj h16).2 s hs
theorem tf_AF_excl {nK : Nat} {al xe : Nat → Int32} (h : tf_AF nK al xe) {k : Nat} {x : Int32} (hk : k < nK) : tf_AF nK al (upd xe k x) := by
  intro j hj h16
  rw [pk_un (by omega)]
  exact h j hj h16
theorem tf_ex0 {nS nK : Nat} {al xe ex : Nat → Int32} (hS : nS ≤ 16) (h : tf_EX nS xe ex) (hf : tf_AF nK al xe) {k s : Nat} (hk : nK ≤ k) (h16 : k < 16) (hs : s < 16) : ex (k * 16 + s) = 0 := by
  have h3 := tf_EX_bit hS h h16 hs
  rw [(hf k hk h16).1] at h3
  refine h3.mp ?_
  have h4 := (tf_bit (e := 0) (by omega) hs).mpr (Nat.zero_testBit s)
  rw [nI_0] at h4
  exact h4
/-! range checks -/
def tf_in (c : Int32) (n : Nat) : Prop := ∃ j, j < n ∧ c = nI j
theorem tf_ge0 {c : Int32} {n : Nat} (hn : n < 2 ^ 31) (h : nI n ≤ c) : ¬ c < 0 := fun z => Int32.lt_irrefl (Int32.lt_of_lt_of_le (Int32.lt_of_lt_of_le z (nI_pos' hn)) h)
theorem tf_neg {n : Nat} (hn : n < 2 ^ 31) : ¬ nI n < 0 := nI_pos hn
theorem tf_nin {c : Int32} {n : Nat} (hn : n < 2 ^ 31) (h : ¬ tf_in c n) : c < 0 ∨ (¬ c < 0 ∧ nI n ≤ c ∧ ¬ c < nI n) := by
  rcases pk_ix c hn with a | a | a
  · exact Or.inl a
  · exact Or.inr ⟨tf_ge0 hn a, a, Int32.not_lt.mpr a⟩
  · exact absurd a h
theorem tf_r1t {c : Int32} {n : Nat} {A B C : Prop} (hn : n < 2 ^ 31) (h : tf_in c n) (b : B) : (c < 0 → A) ∧ (¬ c < 0 → ((nI n ≤ c → C) ∧ (¬ nI n ≤ c → B))) := by
  obtain ⟨j, hj, rfl⟩ := h
  exact br_f (nI_pos (by omega)) (br_f (nI_ge hj hn) b)
theorem tf_r1f {c : Int32} {n : Nat} {A B : Prop} (hn : n < 2 ^ 31) (h : ¬ tf_in c n) (a : A) : (c < 0 → A) ∧ (¬ c < 0 → ((nI n ≤ c → A) ∧ (¬ nI n ≤ c → B))) := by
  rcases tf_nin hn h with e | ⟨e1, e2, e3⟩
  · exact br_t e a
  · exact br_f e1 (br_t e2 a)
theorem tf_r2t {c : Int32} {n : Nat} {A B C : Prop} (hn : n < 2 ^ 31) (h : tf_in c n) (b : B) : (c < 0 → A) ∧ (¬ c < 0 → ((c < nI n → B) ∧ (¬ c < nI n → C))) := by
  obtain ⟨j, hj, rfl⟩ := h
  exact br_f (nI_pos (by omega)) (br_t (nI_lt hj hn) b)
theorem tf_r2f {c : Int32} {n : Nat} {A B : Prop} (hn : n < 2 ^ 31) (h : ¬ tf_in c n) (a : A) : (c < 0 → A) ∧ (¬ c < 0 → ((c < nI n → B) ∧ (¬ c < nI n → A))) := by
  rcases tf_nin hn h with e | ⟨e1, e2, e3⟩
  · exact br_t e a
  · exact br_f e1 (br_f e3 a)
theorem tf_not {p q : Prop} (h : q → p) (hp : ¬ p) : ¬ q := fun z => hp (h z)
def tf_ow (c : Int32) (nC nT : Nat) : Prop := ∃ j, (j < nC ∨ (8 ≤ j ∧ j < 8 + nT)) ∧ c = nI j
theorem tf_ow_not {c : Int32} {nC nT : Nat} (hC : nC ≤ 8) (hT : nT ≤ 8) (h : ¬ tf_ow c nC nT) : ¬ tf_in c nC ∧ (c < 8 ∨ (¬ c < 8 ∧ nI (8 + nT) ≤ c ∧ ¬ c < nI (8 + nT))) := by
  refine ⟨fun ⟨j, hj, e⟩ => h ⟨j, Or.inl hj, e⟩, ?_⟩
  have h8 : nI 8 = 8 := rfl
  rcases pk_ix c (n := 8 + nT) (by omega) with a | a | ⟨j, hj, e⟩
  · left
    exact Int32.lt_of_lt_of_le a (by decide)
  · right
    refine ⟨?_, a, Int32.not_lt.mpr a⟩
    rw [Int32.not_lt, ← h8]
    exact Int32.le_trans (nI_le (by omega) (by omega)) a
  · left
    subst e
    rw [← h8, nI_ltI (by omega) (by omega)]
    rcases Nat.lt_or_ge j 8 with c | c
    · exact c
    · exact absurd ⟨j, Or.inr ⟨c, hj⟩, rfl⟩ h
theorem tf_ow_hi {j nC : Nat} (hC : nC ≤ 8) (h : 8 ≤ j) (h2 : j < 16) : ¬ tf_in (nI j) nC := by
  intro ⟨i, hi, e⟩
  have := (nI_eq (by omega) (by omega)).mp e
  omega
end
section
/-! the reference's way to sum contributions -/
def tf_av (c : Nat) (v m : Int32) : Int32 := if c = 0 then -1 else if m = 0 then v else -2
def tf_ai (c : Nat) (v m : Int32) : Prop := (c = 0 → m = 0) ∧ (c ≠ 0 → ¬ v = -1) ∧ (m = 0 ∨ m = 1)
theorem tf_mg_n (a : Int32) : tf_mg a (-1) = a := if_pos rfl
theorem tf_av_0 {v m x : Int32} (hx : ¬ x = -1) : tf_av 1 x 0 = tf_mg (tf_av 0 v m) x := by
  unfold tf_av tf_mg
  rw [if_neg (by decide), if_pos rfl, if_pos rfl, if_neg hx, if_neg hx, if_pos rfl]
theorem tf_av_s {c : Nat} {v m : Int32} (hc : c ≠ 0) (hv : ¬ v = -1) : tf_av (c + 1) v m = tf_mg (tf_av c v m) v := by
  unfold tf_av tf_mg
  rw [if_neg (by omega), if_neg hc, if_neg hv]
  by_cases hm : m = 0
  · rw [if_pos hm, if_pos rfl]
  · rw [if_neg hm]
    by_cases h2 : v = -2
    · rw [if_pos h2]
    · rw [if_neg h2, if_neg (by decide)]
theorem tf_av_d {c : Nat} {v m x : Int32} (hc : c ≠ 0) (hv : ¬ v = -1) (hx : ¬ x = -1) (hd : ¬ x = v) : tf_av (c + 1) v 1 = tf_mg (tf_av c v m) x := by
  unfold tf_av tf_mg
  rw [if_neg (by omega), if_neg hc, if_neg hx, if_neg (by decide)]
  by_cases hm : m = 0
  · rw [if_pos hm, if_neg hd, if_neg hv]
  · rw [if_neg hm]
    by_cases h2 : x = -2
    · rw [if_pos h2]
    · rw [if_neg h2, if_neg (by decide)]
theorem tf_ix (b i : Nat) : nI b * 16 + nI i = nI (b * 16 + i) := by
  show nI b * nI 16 + nI i = _
  rw [pk_mul, nI_add]
/-! frames -/
def tf_VF (nB nC d : Nat) (L fB fH fP : Nat → Int32) : Prop := ∀ i, i < d → (∃ b l p, b < nB ∧ l ≤ 16 ∧ fB i = nI b ∧ L b = nI l ∧ fP i = nI p ∧ p ≤ l) ∧ ∃ h, h < nC ∧ fH i = nI h
theorem tf_VF_le {nB nC d d' : Nat} {L fB fH fP : Nat → Int32} (h : tf_VF nB nC d L fB fH fP) (hd : d' ≤ d) : tf_VF nB nC d' L fB fH fP := fun i hi => h i (by omega)
theorem tf_VF_pc {nB nC d : Nat} {L fB fH fP : Nat → Int32} (h : tf_VF nB nC d L fB fH fP) {i b l p : Nat} (hb : b < nB) (hl : l ≤ 16) (e1 : fB i = nI b) (e2 : L b = nI l) (hp : p < l) : tf_VF nB nC d L fB fH (upd fP i (nI (p + 1))) := by
  intro j hj
  by_cases c : j = i
  · subst c
    exact ⟨⟨b, l, p + 1, hb, hl, e1, e2, pk_us, hp⟩, (h j hj).2⟩
  · rw [pk_un c]
    exact h j hj
theorem tf_VF_push {nB nC d : Nat} {L fB fH fP : Nat → Int32} (h : tf_VF nB nC d L fB fH fP) {b l g : Nat} (hb : b < nB) (hl : l ≤ 16) (e2 : L b = nI l) (hg : g < nC) : tf_VF nB nC (d + 1) L (upd fB d (nI b)) (upd fH d (nI g)) (upd fP d 0) := by
  intro j hj
  by_cases c : j = d
  · subst c
    exact ⟨⟨b, l, 0, hb, hl, pk_us, e2, pk_us, by omega⟩, g, hg, pk_us⟩
  · rw [pk_un c, pk_un c, pk_un c]
    exact h j (by omega)
/-! fresh arrays -/
def tf_ini (n : Nat) : Nat → Int32 := fun i => if i < n then -1 else 0
theorem tf_ini_0 : tf_ini 0 = fun _ => 0 := by
  funext i
  exact if_neg (by omega)
theorem tf_ini_s (n : Nat) : upd (tf_ini n) n (-1) = tf_ini (n + 1) := by
  funext i
  unfold upd tf_ini
  by_cases c : i = n
  · rw [if_pos c, if_pos (by omega)]
  · rw [if_neg c]
    by_cases c2 : i < n
    · rw [if_pos c2, if_pos (by omega)]
    · rw [if_neg c2, if_neg (by omega)]
theorem tf_ini_lt {n i : Nat} (h : i < n) : tf_ini n i = -1 := if_pos h
def tf_cp (v : Int32) (g : Nat) : Nat := if v < 1 then 1 else if nI g < v then g else v.toNatClampNeg
theorem tf_cp_in (v : Int32) {g : Nat} (h1 : 1 ≤ g) (hg : g < 2 ^ 31) : 1 ≤ tf_cp v g ∧ tf_cp v g ≤ g := by
  unfold tf_cp
  by_cases c : v < 1
  · rw [if_pos c]; omega
  · rw [if_neg c]
    by_cases c2 : nI g < v
    · rw [if_pos c2]; omega
    · rw [if_neg c2]
      rw [Int32.lt_iff_toInt_lt, show (1 : Int32).toInt = 1 from by decide] at c
      rw [Int32.lt_iff_toInt_lt, nI_toInt hg] at c2
      have e : v.toNatClampNeg = v.toInt.toNat := rfl
      rw [e]
      omega
theorem tf_cp_v {v : Int32} {g : Nat} (c : ¬ v < 1) (c2 : ¬ nI g < v) : nI (tf_cp v g) = v := by
  unfold tf_cp
  rw [if_neg c, if_neg c2]
  have h0 : ¬ v < 0 := by
    intro z
    rw [Int32.lt_iff_toInt_lt, show (1 : Int32).toInt = 1 from by decide] at c
    rw [Int32.lt_iff_toInt_lt, show (0 : Int32).toInt = 0 from by decide] at z
    omega
  obtain ⟨j, hj, rfl⟩ := nI_of h0
  rw [nI_clamp hj]
theorem tf_cp_1 {v : Int32} {g : Nat} (c : v < 1) : nI (tf_cp v g) = 1 := by
  unfold tf_cp
  rw [if_pos c]
  rfl
theorem tf_cp_g {v : Int32} {g : Nat} (c : ¬ v < 1) (c2 : nI g < v) : nI (tf_cp v g) = nI g := by
  unfold tf_cp
  rw [if_neg c, if_pos c2]
theorem tf_ok0 {nC nT nS nD : Nat} (hC : 1 ≤ nC ∧ nC ≤ 8) (hT : 1 ≤ nT ∧ nT ≤ 8) (hS : 1 ≤ nS ∧ nS ≤ 16) (hD : 1 ≤ nD ∧ nD ≤ 16) : tf_Ok nC nT nS nD 0 0 (fun _ => 0) (fun _ => 0) (fun _ => 0) (tf_ini 8) (tf_ini 256) (fun _ => 0) (fun _ => 0) (fun _ => 0) (fun _ => 0) (tf_ini 256) (tf_ini 256) := by
  refine ⟨⟨hC, hT, hS, hD, by omega, by omega⟩, ⟨fun b _ => ⟨0, by omega, rfl⟩, fun b _ _ => rfl⟩, fun b l i h => absurd h (by omega), fun c hc => Or.inl (tf_ini_lt (by omega)), fun i hi => Or.inl (tf_ini_lt hi), fun k hk => absurd hk (by omega), fun k _ hk => ⟨rfl, fun s hs => tf_ini_lt (by omega)⟩, fun k hk => ⟨0, Nat.two_pow_pos _, rfl, fun s hs => ?_⟩, fun o s ho hs => ?_⟩
  · rw [Nat.zero_testBit]
    rfl
  · have h : o * 16 + s < 256 := by omega
    rw [tf_ini_lt h]
    unfold tf_PR tf_pf
    rw [if_pos (tf_ini_lt h)]
    rfl
end
section
/-! the component's small questions -/
theorem tf_8 (n : Nat) : (8 : Int32) + nI n = nI (8 + n) := nI_add 8 n
theorem tf_16 (n : Nat) : (16 : Int32) + nI n = nI (16 + n) := nI_add 16 n
theorem tx_isClass_t {nC nT nS nD nB nK : Nat} {ls rr rc sp fc : Int32} {L op kk su own ow tr xe al fl fA fC fT fP fB fH : Nat → Int32} {post : Int32 → Prop} {c : Int32} (hC : nC ≤ 8) (h : tf_in c nC) (p : post 1) : wpX_isClass post (nI nC, nI nT, nI nS, nI nD, nI nB, nI nK, ls, rr, rc, sp, fc, L, op, kk, su, own, ow, tr, xe, al, fl, fA, fC, fT, fP, fB, fH) c := tf_r1t (by omega) h p
theorem tx_isClass_f {nC nT nS nD nB nK : Nat} {ls rr rc sp fc : Int32} {L op kk su own ow tr xe al fl fA fC fT fP fB fH : Nat → Int32} {post : Int32 → Prop} {c : Int32} (hC : nC ≤ 8) (h : ¬ tf_in c nC) (p : post 0) : wpX_isClass post (nI nC, nI nT, nI nS, nI nD, nI nB, nI nK, ls, rr, rc, sp, fc, L, op, kk, su, own, ow, tr, xe, al, fl, fA, fC, fT, fP, fB, fH) c := tf_r1f (by omega) h p
theorem tx_isSelector_t {nC nT nS nD nB nK : Nat} {ls rr rc sp fc : Int32} {L op kk su own ow tr xe al fl fA fC fT fP fB fH : Nat → Int32} {post : Int32 → Prop} {c : Int32} (hC : nS ≤ 16) (h : tf_in c nS) (p : post 1) : wpX_isSelector post (nI nC, nI nT, nI nS, nI nD, nI nB, nI nK, ls, rr, rc, sp, fc, L, op, kk, su, own, ow, tr, xe, al, fl, fA, fC, fT, fP, fB, fH) c := tf_r1t (by omega) h p
theorem tx_isSelector_f {nC nT nS nD nB nK : Nat} {ls rr rc sp fc : Int32} {L op kk su own ow tr xe al fl fA fC fT fP fB fH : Nat → Int32} {post : Int32 → Prop} {c : Int32} (hC : nS ≤ 16) (h : ¬ tf_in c nS) (p : post 0) : wpX_isSelector post (nI nC, nI nT, nI nS, nI nD, nI nB, nI nK, ls, rr, rc, sp, fc, L, op, kk, su, own, ow, tr, xe, al, fl, fA, fC, fT, fP, fB, fH) c := tf_r1f (by omega) h p
theorem tx_isBody_t {nC nT nS nD nB nK : Nat} {ls rr rc sp fc : Int32} {L op kk su own ow tr xe al fl fA fC fT fP fB fH : Nat → Int32} {post : Int32 → Prop} {c : Int32} (hC : nB ≤ 16) (h : tf_in c nB) (p : post 1) : wpX_isBody post (nI nC, nI nT, nI nS, nI nD, nI nB, nI nK, ls, rr, rc, sp, fc, L, op, kk, su, own, ow, tr, xe, al, fl, fA, fC, fT, fP, fB, fH) c := tf_r1t (by omega) h p
theorem tx_isBody_f {nC nT nS nD nB nK : Nat} {ls rr rc sp fc : Int32} {L op kk su own ow tr xe al fl fA fC fT fP fB fH : Nat → Int32} {post : Int32 → Prop} {c : Int32} (hC : nB ≤ 16) (h : ¬ tf_in c nB) (p : post 0) : wpX_isBody post (nI nC, nI nT, nI nS, nI nD, nI nB, nI nK, ls, rr, rc, sp, fc, L, op, kk, su, own, ow, tr, xe, al, fl, fA, fC, fT, fP, fB, fH) c := tf_r1f (by omega) h p
theorem tx_isComponent_t {nC nT nS nD nB nK : Nat} {ls rr rc sp fc : Int32} {L op kk su own ow tr xe al fl fA fC fT fP fB fH : Nat → Int32} {post : Int32 → Prop} {c : Int32} (hC : nK ≤ 16) (h : tf_in c nK) (p : post 1) : wpX_isComponent post (nI nC, nI nT, nI nS, nI nD, nI nB, nI nK, ls, rr, rc, sp, fc, L, op, kk, su, own, ow, tr, xe, al, fl, fA, fC, fT, fP, fB, fH) c := tf_r1t (by omega) h p
theorem tx_isComponent_f {nC nT nS nD nB nK : Nat} {ls rr rc sp fc : Int32} {L op kk su own ow tr xe al fl fA fC fT fP fB fH : Nat → Int32} {post : Int32 → Prop} {c : Int32} (hC : nK ≤ 16) (h : ¬ tf_in c nK) (p : post 0) : wpX_isComponent post (nI nC, nI nT, nI nS, nI nD, nI nB, nI nK, ls, rr, rc, sp, fc, L, op, kk, su, own, ow, tr, xe, al, fl, fA, fC, fT, fP, fB, fH) c := tf_r1f (by omega) h p
theorem tx_isOwner_t {nC nT nS nD nB nK : Nat} {ls rr rc sp fc : Int32} {L op kk su own ow tr xe al fl fA fC fT fP fB fH : Nat → Int32} {post : Int32 → Prop} {c : Int32} (hC : nC ≤ 8) (hT : nT ≤ 8) (h : tf_ow c nC nT) (p : post 1) : wpX_isOwner post (nI nC, nI nT, nI nS, nI nD, nI nB, nI nK, ls, rr, rc, sp, fc, L, op, kk, su, own, ow, tr, xe, al, fl, fA, fC, fT, fP, fB, fH) c := by
  obtain ⟨j, hj, rfl⟩ := h
  unfold wpX_isOwner
  by_cases h1 : j < nC
  · exact tx_isClass_t hC ⟨j, h1, rfl⟩ (br_f (by decide) p)
  · have h2 : 8 ≤ j ∧ j < 8 + nT := by omega
    refine tx_isClass_f hC (tf_ow_hi hC h2.1 (by omega)) (br_t rfl (br_f (nI_nlt (b := 8) h2.1 (by omega)) (br_f ?_ p)))
    rw [tf_8]
    exact nI_ge h2.2 (by omega)
theorem tx_isOwner_f {nC nT nS nD nB nK : Nat} {ls rr rc sp fc : Int32} {L op kk su own ow tr xe al fl fA fC fT fP fB fH : Nat → Int32} {post : Int32 → Prop} {c : Int32} (hC : nC ≤ 8) (hT : nT ≤ 8) (h : ¬ tf_ow c nC nT) (p : post 0) : wpX_isOwner post (nI nC, nI nT, nI nS, nI nD, nI nB, nI nK, ls, rr, rc, sp, fc, L, op, kk, su, own, ow, tr, xe, al, fl, fA, fC, fT, fP, fB, fH) c := by
  obtain ⟨h1, h2⟩ := tf_ow_not hC hT h
  unfold wpX_isOwner
  refine tx_isClass_f hC h1 (br_t rfl ?_)
  rcases h2 with a | ⟨a, b, _⟩
  · exact br_t a p
  · rw [← tf_8] at b
    exact br_f a (br_t b p)
theorem tx_merge {post : Int32 → Prop} {a b : Int32} (p : post (tf_mg a b)) : wpX_merge post a b := by
  unfold tf_mg at p
  by_cases c : b = -1
  · rw [if_pos c] at p
    exact br_t c p
  · rw [if_neg c] at p
    by_cases c2 : b = a
    · rw [if_pos c2] at p
      exact br_f c (br_t c2 p)
    · rw [if_neg c2] at p
      by_cases c3 : a = -1
      · rw [if_pos c3] at p
        exact br_f c (br_f c2 (br_t c3 p))
      · rw [if_neg c3] at p
        exact br_f c (br_f c2 (br_f c3 p))
theorem tf_tix (u s : Nat) : ((8 : Int32) + nI u) * 16 + nI s = nI (128 + (u * 16 + s)) := by
  rw [tf_8, tf_ix]
  exact congrArg nI (by omega)
theorem tx_direct {nC nT nS nD nB nK : Nat} {ls rr rc sp fc : Int32} {L op kk su own ow tr xe al fl fA fC fT fP fB fH : Nat → Int32} {ex : Nat → Int32} {post : Int32 → Prop} (hS : nS ≤ 16) (hE : tf_EX nS xe ex) {k s u : Nat} (hk : k < 16) (hs : s < 16) (hu : u < 8) (e : tr k = nI u) (p : post (tf_dc tr ex (fun i => fl (128 + i)) k s)) : wpX_directContribution post (nI nC, nI nT, nI nS, nI nD, nI nB, nI nK, ls, rr, rc, sp, fc, L, op, kk, su, own, ow, tr, xe, al, fl, fA, fC, fT, fP, fB, fH) (nI k) (nI s) := by
  unfold wpX_directContribution
  dsimp only
  rw [nI_clamp (show k < 2 ^ 31 by omega), e, tf_tix, nI_clamp (show 128 + (u * 16 + s) < 2 ^ 31 by omega)]
  unfold tf_dc at p
  rw [e, nI_clamp (show u < 2 ^ 31 by omega)] at p
  refine ⟨vp_in_nI hk (by omega), ?_⟩
  have hb := tf_EX_bit hS hE hk hs
  by_cases c : ex (k * 16 + s) = 0
  · rw [if_pos c] at p
    exact br_t (hb.mpr c) ⟨vp_in_nI hk (by omega), vp_in_nI (by omega) (by omega), p⟩
  · rw [if_neg c] at p
    exact br_f (fun z => c (hb.mp z)) p
theorem tx_aliasC {nC nT nS nD nB nK : Nat} {ls rr rc sp fc : Int32} {L op kk su own ow tr xe al fl fA fC fT fP fB fH : Nat → Int32} {post : Int32 → Prop} {k s u : Nat} (hk : k < 16) (hs : s < 16) (hu : u < 8) (e : tr k = nI u) (ha : al (k * 16 + s) = -1 ∨ ∃ r, r < 16 ∧ al (k * 16 + s) = nI r) (p : post (tf_ac tr al (fun i => fl (128 + i)) k s)) : wpX_aliasContribution post (nI nC, nI nT, nI nS, nI nD, nI nB, nI nK, ls, rr, rc, sp, fc, L, op, kk, su, own, ow, tr, xe, al, fl, fA, fC, fT, fP, fB, fH) (nI k) (nI s) := by
  unfold wpX_aliasContribution
  dsimp only
  rw [tf_ix, nI_clamp (show k * 16 + s < 2 ^ 31 by omega), nI_clamp (show k < 2 ^ 31 by omega)]
  unfold tf_ac at p
  refine ⟨vp_in_nI (by omega) (by omega), ?_⟩
  rcases ha with a | ⟨r, hr, a⟩
  · rw [if_pos a] at p
    exact nm_r a (br_t rfl p)
  · rw [a, if_neg (tf_m1 (by omega)), e, nI_clamp (show u < 2 ^ 31 by omega), nI_clamp (show r < 2 ^ 31 by omega)] at p
    refine nm_r a (br_f (tf_m1 (by omega)) ⟨vp_in_nI hk (by omega), ?_⟩)
    rw [e, tf_tix, nI_clamp (show 128 + (u * 16 + r) < 2 ^ 31 by omega)]
    exact ⟨vp_in_nI (by omega) (by omega), p⟩
theorem tx_sum {nC nT nS nD nB nK : Nat} {ls rr rc sp fc : Int32} {L op kk su own ow tr xe al fl fA fC fT fP fB fH : Nat → Int32} {ex : Nat → Int32} {post : Int32 → Prop} (hS : nS ≤ 16) (hT : nT ≤ 8) (hK : nK ≤ 16) (hE : tf_EX nS xe ex) (hV : tf_CV nT nS nK ow tr al) {o s : Nat} (ho : o < 16) (hs : s < nS) (p : post (tf_cs ow tr ex al (fun i => fl (128 + i)) o s nK)) : wpX_sumOfComponents post (nI nC, nI nT, nI nS, nI nD, nI nB, nI nK, ls, rr, rc, sp, fc, L, op, kk, su, own, ow, tr, xe, al, fl, fA, fC, fT, fP, fB, fH) (nI o) (nI s) := by
  have main : ∀ d k, k + d = nK → wX_sumOfComponents_5 post (nI o) (nI s) (nI nC) (nI nT) (nI nS) (nI nD) (nI nB) (nI nK) ls rr rc sp fc L op kk su own ow tr xe al fl fA fC fT fP fB fH (d + 1) (tf_cs ow tr ex al (fun i => fl (128 + i)) o s k) (nI k) := by
    intro d
    induction d with
    | zero =>
      intro k hk
      have e : k = nK := by omega
      rw [e]
      exact br_t Int32.le_rfl p
    | succ d ih =>
      intro k hk
      have t := ih (k + 1) (by omega)
      obtain ⟨o', u, h1, h2, h3, h4, h5, h6⟩ := hV k (by omega)
      have ha : al (k * 16 + s) = -1 ∨ ∃ r, r < 16 ∧ al (k * 16 + s) = nI r := by
        rcases h6 s hs with a | ⟨r, hr, a⟩
        · exact Or.inl a
        · exact Or.inr ⟨r, by omega, a⟩
      refine br_f (nI_ge (by omega) (by omega)) ⟨vp_in_nI (by omega) (by omega), ?_⟩
      rw [nI_clamp (show k < 2 ^ 31 by omega)]
      simp only [tf_cs] at t
      by_cases c : ow k = nI o
      · rw [if_pos c] at t
        exact br_t c (tx_direct hS hE (by omega) (by omega) (by omega) h2 (tx_merge (tx_aliasC (by omega) (by omega) (by omega) h2 ha (tx_merge (nm_r (nI_1 k) t)))))
      · rw [if_neg c] at t
        exact br_f c (nm_r (nI_1 k) t)
  exact ⟨nK + 1, main nK 0 (by omega)⟩
theorem tx_flattenOwner {nC nT nS nD nB nK : Nat} {ls rr rc sp fc : Int32} {L op kk su own ow tr xe al fl fA fC fT fP fB fH : Nat → Int32} {ex : Nat → Int32} {post : SX → Prop} (hS : nS ≤ 16) (hT : nT ≤ 8) (hK : nK ≤ 16) (hE : tf_EX nS xe ex) (hV : tf_CV nT nS nK ow tr al) {o : Nat} (ho : o < 16) (h : ∀ u r, u < nT → (8 ≤ o → u + 8 < o) → r < nS → fl (128 + (u * 16 + r)) = tf_pv own ow tr ex al nK (u * 16 + r)) (p : ∀ g : Nat → Int32, (∀ s, s < nS → g (o * 16 + s) = tf_PR own ow tr ex al nK o s) → (∀ i, i / 16 ≠ o → g i = fl i) → post (nI nC, nI nT, nI nS, nI nD, nI nB, nI nK, ls, rr, rc, sp, fc, L, op, kk, su, own, ow, tr, xe, al, g, fA, fC, fT, fP, fB, fH)) : wpX_flattenOwner post (nI nC, nI nT, nI nS, nI nD, nI nB, nI nK, ls, rr, rc, sp, fc, L, op, kk, su, own, ow, tr, xe, al, fl, fA, fC, fT, fP, fB, fH) (nI o) := by
  have main : ∀ d j (g : Nat → Int32), j + d = nS → (∀ s, s < j → g (o * 16 + s) = tf_PR own ow tr ex al nK o s) → (∀ i, i / 16 ≠ o → g i = fl i) → wX_flattenOwner_2 post (nI o) (nI nC) (nI nT) (nI nS) (nI nD) (nI nB) (nI nK) ls rr rc sp fc (d + 1) (nI j) L op kk su own ow tr xe al g fA fC fT fP fB fH := by
    intro d
    induction d with
    | zero =>
      intro j g hj h1 h2
      have e : j = nS := by omega
      rw [e] at h1
      rw [e]
      exact br_t Int32.le_rfl (p g h1 h2)
    | succ d ih =>
      intro j g hj h1 h2
      have hd : tf_pf own ow tr ex al (fun i => g (128 + i)) nK o j = tf_PR own ow tr ex al nK o j := by
        refine tf_pf_congr hT hS hV ho (by omega) (fun u r hu h8 hr => ?_)
        show g (128 + (u * 16 + r)) = _
        rw [h2 _ (by omega), h u r hu h8 hr]
      have st : ∀ x, x = tf_PR own ow tr ex al nK o j → wX_flattenOwner_2 post (nI o) (nI nC) (nI nT) (nI nS) (nI nD) (nI nB) (nI nK) ls rr rc sp fc (d + 1) (nI (j + 1)) L op kk su own ow tr xe al (upd g (o * 16 + j) x) fA fC fT fP fB fH := by
        intro x hx
        refine ih (j + 1) _ (by omega) (fun s hs => ?_) (fun i hi => ?_)
        · by_cases c : s = j
          · rw [c, pk_us, hx]
          · rw [pk_un (by omega)]
            exact h1 s (by omega)
        · rw [pk_un (by omega)]
          exact h2 i hi
      refine br_f (nI_ge (by omega) (by omega)) (nm_r (tf_ix o j) ⟨vp_in_nI (by omega) (by omega), ?_⟩)
      rw [nI_clamp (show o * 16 + j < 2 ^ 31 by omega)]
      unfold tf_pf at hd
      by_cases c : own (o * 16 + j) = -1
      · rw [if_pos c] at hd
        exact nm_r c (br_t rfl (tx_sum hS hT hK hE hV ho (by omega) ⟨vp_in_nI (by omega) (by omega), nm_e (nm_r (nI_1 j) (st _ hd))⟩))
      · rw [if_neg c] at hd
        exact nm_e (br_f c ⟨vp_in_nI (by omega) (by omega), nm_e (nm_r (nI_1 j) (st _ hd))⟩)
  exact ⟨nS + 1, main nS 0 fl (by omega) (fun s hs => absurd hs (by omega)) (fun i _ => rfl)⟩
theorem tx_flattenAll {nC nT nS nD nB nK : Nat} {ls rr rc sp fc : Int32} {L op kk su own ow tr xe al fl fA fC fT fP fB fH : Nat → Int32} {ex : Nat → Int32} {post : SX → Prop} (hC : nC ≤ 8) (hS : nS ≤ 16) (hT : nT ≤ 8) (hK : nK ≤ 16) (hE : tf_EX nS xe ex) (hV : tf_CV nT nS nK ow tr al) (p : ∀ g : Nat → Int32, tf_FL nC nT nS nK own ow tr ex al g → post (nI nC, nI nT, nI nS, nI nD, nI nB, nI nK, ls, rr, rc, sp, fc, L, op, kk, su, own, ow, tr, xe, al, g, fA, fC, fT, fP, fB, fH)) : wpX_flattenAll post (nI nC, nI nT, nI nS, nI nD, nI nB, nI nK, ls, rr, rc, sp, fc, L, op, kk, su, own, ow, tr, xe, al, fl, fA, fC, fT, fP, fB, fH) := by
  have cl : ∀ d c (g : Nat → Int32), c + d = nC → (∀ t s, t < nT → s < nS → g (128 + (t * 16 + s)) = tf_pv own ow tr ex al nK (t * 16 + s)) → (∀ c' s, c' < c → s < nS → g (c' * 16 + s) = tf_PR own ow tr ex al nK c' s) → wX_flattenAll_26 post (d + 1) (nI c) (nI nC) (nI nT) (nI nS) (nI nD) (nI nB) (nI nK) ls rr rc sp fc L op kk su own ow tr xe al g fA fC fT fP fB fH := by
    intro d
    induction d with
    | zero =>
      intro c g hc h1 h2
      have e : c = nC := by omega
      rw [e] at h2
      rw [e]
      refine br_t Int32.le_rfl (p g (fun o s ho hs => ?_))
      rcases ho with ho | ⟨h8, ho⟩
      · exact h2 o s ho hs
      · obtain ⟨t, rfl⟩ : ∃ t, o = 8 + t := ⟨o - 8, by omega⟩
        rw [tf_PR_tr hT hS hV (by omega) hs, show (8 + t) * 16 + s = 128 + (t * 16 + s) by omega]
        exact h1 t s (by omega) hs
    | succ d ih =>
      intro c g hc h1 h2
      refine br_f (nI_ge (by omega) (by omega)) (tx_flattenOwner hS hT hK hE hV (by omega) (fun u r hu _ hr => h1 u r hu hr) (fun g' h3 h4 => nm_r (nI_1 c) (ih (c + 1) g' (by omega) (fun t s ht hs => ?_) (fun c' s hc' hs => ?_))))
      · rw [h4 _ (by omega)]
        exact h1 t s ht hs
      · by_cases e : c' = c
        · rw [e]
          exact h3 s hs
        · rw [h4 _ (by omega)]
          exact h2 c' s (by omega) hs
  have tl : ∀ d t (g : Nat → Int32), t + d = nT → (∀ t' s, t' < t → s < nS → g (128 + (t' * 16 + s)) = tf_pv own ow tr ex al nK (t' * 16 + s)) → wX_flattenAll_2 post (d + 1) (nI t) (nI nC) (nI nT) (nI nS) (nI nD) (nI nB) (nI nK) ls rr rc sp fc L op kk su own ow tr xe al g fA fC fT fP fB fH := by
    intro d
    induction d with
    | zero =>
      intro t g ht h1
      have e : t = nT := by omega
      rw [e] at h1
      rw [e]
      exact br_t Int32.le_rfl ⟨nC + 1, cl nC 0 g (by omega) h1 (fun c' s hc' => absurd hc' (by omega))⟩
    | succ d ih =>
      intro t g ht h1
      refine br_f (nI_ge (by omega) (by omega)) ?_
      rw [tf_8 t]
      refine tx_flattenOwner hS hT hK hE hV (by omega) (fun u r hu h8 hr => h1 u r (by have := h8 (by omega); omega) hr) (fun g' h3 h4 => nm_r (nI_1 t) (ih (t + 1) g' (by omega) (fun t' s ht' hs => ?_)))
      by_cases e : t' = t
      · have h5 := h3 s hs
        rw [tf_PR_tr hT hS hV (by omega) hs, show (8 + t) * 16 + s = 128 + (t * 16 + s) by omega] at h5
        rw [e]
        exact h5
      · rw [h4 _ (by omega)]
        exact h1 t' s (by omega) hs
  exact ⟨nT + 1, tl nT 0 fl (by omega) (fun t' s ht' => absurd ht' (by omega))⟩
end
section
/-! the reference's small questions -/
theorem ty_validSel_t {nC nT nS nD nB nK : Nat} {dp rs st : Int32} {op kk L su own ow tr ex al tp fB fH fA fC fT fP : Nat → Int32} {post : Int32 → Prop} {c : Int32} (hC : nS ≤ 16) (h : tf_in c nS) (p : post 1) : wpY_validSel post (nI nC, nI nT, nI nS, nI nD, nI nB, nI nK, dp, rs, st, op, kk, L, su, own, ow, tr, ex, al, tp, fB, fH, fA, fC, fT, fP) c := tf_r1t (by omega) h p
theorem ty_validSel_f {nC nT nS nD nB nK : Nat} {dp rs st : Int32} {op kk L su own ow tr ex al tp fB fH fA fC fT fP : Nat → Int32} {post : Int32 → Prop} {c : Int32} (hC : nS ≤ 16) (h : ¬ tf_in c nS) (p : post 0) : wpY_validSel post (nI nC, nI nT, nI nS, nI nD, nI nB, nI nK, dp, rs, st, op, kk, L, su, own, ow, tr, ex, al, tp, fB, fH, fA, fC, fT, fP) c := tf_r1f (by omega) h p
theorem ty_validBody_t {nC nT nS nD nB nK : Nat} {dp rs st : Int32} {op kk L su own ow tr ex al tp fB fH fA fC fT fP : Nat → Int32} {post : Int32 → Prop} {c : Int32} (hC : nB ≤ 16) (h : tf_in c nB) (p : post 1) : wpY_validBody post (nI nC, nI nT, nI nS, nI nD, nI nB, nI nK, dp, rs, st, op, kk, L, su, own, ow, tr, ex, al, tp, fB, fH, fA, fC, fT, fP) c := tf_r1t (by omega) h p
theorem ty_validBody_f {nC nT nS nD nB nK : Nat} {dp rs st : Int32} {op kk L su own ow tr ex al tp fB fH fA fC fT fP : Nat → Int32} {post : Int32 → Prop} {c : Int32} (hC : nB ≤ 16) (h : ¬ tf_in c nB) (p : post 0) : wpY_validBody post (nI nC, nI nT, nI nS, nI nD, nI nB, nI nK, dp, rs, st, op, kk, L, su, own, ow, tr, ex, al, tp, fB, fH, fA, fC, fT, fP) c := tf_r1f (by omega) h p
theorem ty_validOwner_t {nC nT nS nD nB nK : Nat} {dp rs st : Int32} {op kk L su own ow tr ex al tp fB fH fA fC fT fP : Nat → Int32} {post : Int32 → Prop} {c : Int32} (hC : nC ≤ 8) (hT : nT ≤ 8) (h : tf_ow c nC nT) (p : post 1) : wpY_validOwner post (nI nC, nI nT, nI nS, nI nD, nI nB, nI nK, dp, rs, st, op, kk, L, su, own, ow, tr, ex, al, tp, fB, fH, fA, fC, fT, fP) c := by
  obtain ⟨j, hj, rfl⟩ := h
  by_cases h1 : j < nC
  · exact br_f (nI_pos (by omega)) (br_t (nI_lt h1 (by omega)) p)
  · have h2 : 8 ≤ j ∧ j < 8 + nT := by omega
    have h3 : ¬ (8 : Int32) + nI nT ≤ nI j := by
      rw [tf_8]
      exact nI_ge h2.2 (by omega)
    exact br_f (nI_pos (by omega)) (br_f (nI_nlt (by omega) (by omega)) (br_f (nI_nlt (b := 8) h2.1 (by omega)) (br_f h3 p)))
theorem ty_validOwner_f {nC nT nS nD nB nK : Nat} {dp rs st : Int32} {op kk L su own ow tr ex al tp fB fH fA fC fT fP : Nat → Int32} {post : Int32 → Prop} {c : Int32} (hC : nC ≤ 8) (hT : nT ≤ 8) (h : ¬ tf_ow c nC nT) (p : post 0) : wpY_validOwner post (nI nC, nI nT, nI nS, nI nD, nI nB, nI nK, dp, rs, st, op, kk, L, su, own, ow, tr, ex, al, tp, fB, fH, fA, fC, fT, fP) c := by
  obtain ⟨h1, h2⟩ := tf_ow_not hC hT h
  have w : wY_validOwner_12 post c (nI nC) (nI nT) (nI nS) (nI nD) (nI nB) (nI nK) dp rs st op kk L su own ow tr ex al tp fB fH fA fC fT fP := by
    rcases h2 with a | ⟨a, b, _⟩
    · exact br_t a p
    · rw [← tf_8] at b
      exact br_f a (br_t b p)
  exact tf_r2f (by omega) h1 w
theorem ty_c123 {nC nT nS nD nB nK : Nat} {dp rs st : Int32} {op kk L su own ow tr ex al tp fB fH fA fC fT fP : Nat → Int32} {post : Int32 → Prop} {J : Int32 → Int32 → Int32 → Int32 → Prop} {x1 : Int32} {k s u c : Nat} {v m : Int32} (hk : k < 16) (hs : s < 16) (hu : u < 8) (e : tr k = nI u) (ha : al (k * 16 + s) = -1 ∨ ∃ r, r < 16 ∧ al (k * 16 + s) = nI r) (hc : c ≤ 40) (hi : tf_ai c v m) (hJ : ∀ (c' : Nat) (v' m' : Int32), c' ≤ c + 1 → tf_ai c' v' m' → tf_av c' v' m' = tf_mg (tf_av c v m) (tf_ac tr al tp k s) → J (nI c') v' m' (nI (k + 1))) : wY_combine_123 post J x1 (nI s) (nI c) v m (nI k) (nI u) (nI nC) (nI nT) (nI nS) (nI nD) (nI nB) (nI nK) dp rs st op kk L su own ow tr ex al tp fB fH fA fC fT fP := by
  unfold wY_combine_123
  rw [tf_ix, nI_clamp (show k * 16 + s < 2 ^ 31 by omega)]
  refine ⟨vp_in_nI (by omega) (by omega), ?_⟩
  rcases ha with a | ⟨r, hr, a⟩
  · exact nm_r a (br_t rfl (nm_r (nI_1 k) (hJ c v m (by omega) hi (by unfold tf_ac; rw [if_pos a, tf_mg_n]))))
  · have ea : tf_ac tr al tp k s = tp (u * 16 + r) := by
      unfold tf_ac
      rw [a, if_neg (tf_m1 (by omega)), e, nI_clamp (show u < 2 ^ 31 by omega), nI_clamp (show r < 2 ^ 31 by omega)]
    rw [ea] at hJ
    refine nm_r a (br_f (tf_m1 (by omega)) ?_)
    rw [tf_ix u r, nI_clamp (show u * 16 + r < 2 ^ 31 by omega)]
    refine ⟨vp_in_nI (by omega) (by omega), nm_e ?_⟩
    by_cases x : tp (u * 16 + r) = -1
    · exact br_t x (nm_r (nI_1 k) (hJ c v m (by omega) hi (by rw [x, tf_mg_n])))
    · refine br_f x (pk_eq c 0 (fun hc => ?_) (fun hc => ?_))
      · refine nm_r (nI_1 c) (nm_r (nI_1 k) (hJ (c + 1) _ m (by omega) ⟨fun z => absurd z (by omega), fun _ => x, hi.2.2⟩ ?_))
        have hm := hi.1 hc
        subst hc
        rw [hm]
        exact tf_av_0 x
      · by_cases y : tp (u * 16 + r) = v
        · refine br_t y (nm_r (nI_1 c) (nm_r (nI_1 k) (hJ (c + 1) v m (by omega) ⟨fun z => absurd z (by omega), fun _ => hi.2.1 hc, hi.2.2⟩ ?_)))
          rw [y]
          exact tf_av_s hc (hi.2.1 hc)
        · exact br_f y (nm_r (nI_1 c) (nm_r (nI_1 k) (hJ (c + 1) v 1 (by omega) ⟨fun z => absurd z (by omega), fun _ => hi.2.1 hc, Or.inr rfl⟩ (tf_av_d hc (hi.2.1 hc) x y))))
theorem ty_combine {nC nT nS nD nB nK : Nat} {dp rs st : Int32} {op kk L su own ow tr ex al tp fB fH fA fC fT fP : Nat → Int32} {post : Int32 → Prop} (hS : nS ≤ 16) (hT : nT ≤ 8) (hK : nK ≤ 16) (hV : tf_CV nT nS nK ow tr al) {o s : Nat} (ho : o < 16) (hs : s < nS) (p : post (tf_pf own ow tr ex al tp nK o s)) : wpY_combine post (nI nC, nI nT, nI nS, nI nD, nI nB, nI nK, dp, rs, st, op, kk, L, su, own, ow, tr, ex, al, tp, fB, fH, fA, fC, fT, fP) (nI o) (nI s) := by
  have main : (post (tf_cs ow tr ex al tp o s nK)) → ∀ d k c v m, k + d = nK → c ≤ 2 * k → tf_ai c v m → tf_av c v m = tf_cs ow tr ex al tp o s k → wY_combine_31 post (nI o) (nI s) (nI nC) (nI nT) (nI nS) (nI nD) (nI nB) (nI nK) dp rs st op kk L su own ow tr ex al tp fB fH fA fC fT fP (d + 1) (nI c) v m (nI k) := by
    intro q d
    induction d with
    | zero =>
      intro k c v m hk hc hi he
      have e : k = nK := by omega
      rw [e] at he
      rw [← he] at q
      rw [e]
      refine br_t Int32.le_rfl (pk_eq c 0 (fun h => ?_) (fun h => ?_))
      · unfold tf_av at q
        rw [if_pos h] at q
        exact q
      · unfold tf_av at q
        rw [if_neg h] at q
        by_cases hm : m = 0
        · rw [if_pos hm] at q
          exact br_t hm q
        · rw [if_neg hm] at q
          exact br_f hm q
    | succ d ih =>
      intro k c v m hk hc hi he
      obtain ⟨o', u, h1, h2, h3, h4, h5, h6⟩ := hV k (by omega)
      have ha : al (k * 16 + s) = -1 ∨ ∃ r, r < 16 ∧ al (k * 16 + s) = nI r := by
        rcases h6 s hs with a | ⟨r, hr, a⟩
        · exact Or.inl a
        · exact Or.inr ⟨r, by omega, a⟩
      refine br_f (nI_ge (by omega) (by omega)) ⟨vp_in_nI (by omega) (by omega), ?_⟩
      rw [nI_clamp (show k < 2 ^ 31 by omega)]
      by_cases cc : ow k = nI o
      · have IH : ∀ (c1 : Nat) (v1 m1 : Int32), c1 ≤ c + 1 → tf_ai c1 v1 m1 → tf_av c1 v1 m1 = tf_mg (tf_av c v m) (tf_dc tr ex tp k s) → ∀ (c' : Nat) (v' m' : Int32), c' ≤ c1 + 1 → tf_ai c' v' m' → tf_av c' v' m' = tf_mg (tf_av c1 v1 m1) (tf_ac tr al tp k s) → wY_combine_31 post (nI o) (nI s) (nI nC) (nI nT) (nI nS) (nI nD) (nI nB) (nI nK) dp rs st op kk L su own ow tr ex al tp fB fH fA fC fT fP (d + 1) (nI c') v' m' (nI (k + 1)) := by
          intro c1 v1 m1 hc1 hi1 e1 c' v' m' hc' hi' e'
          refine ih (k + 1) c' v' m' (by omega) (by omega) hi' ?_
          simp only [tf_cs]
          rw [if_pos cc, ← he, ← e1, e']
        have C : ∀ (c1 : Nat) (v1 m1 : Int32), c1 ≤ c + 1 → tf_ai c1 v1 m1 → tf_av c1 v1 m1 = tf_mg (tf_av c v m) (tf_dc tr ex tp k s) → wY_combine_123 post (wY_combine_31 post (nI o) (nI s) (nI nC) (nI nT) (nI nS) (nI nD) (nI nB) (nI nK) dp rs st op kk L su own ow tr ex al tp fB fH fA fC fT fP (d + 1)) (nI o) (nI s) (nI c1) v1 m1 (nI k) (nI u) (nI nC) (nI nT) (nI nS) (nI nD) (nI nB) (nI nK) dp rs st op kk L su own ow tr ex al tp fB fH fA fC fT fP := fun c1 v1 m1 a b e => ty_c123 (by omega) (by omega) (by omega) h2 ha (by omega) b (IH c1 v1 m1 a b e)
        refine br_t cc ⟨vp_in_nI (by omega) (by omega), nm_r h2 ?_⟩
        rw [tf_ix k s, nI_clamp (show k * 16 + s < 2 ^ 31 by omega), tf_ix u s, nI_clamp (show u * 16 + s < 2 ^ 31 by omega)]
        refine ⟨vp_in_nI (by omega) (by omega), ?_⟩
        by_cases x0 : ex (k * 16 + s) = 0
        · have ed : tf_dc tr ex tp k s = tp (u * 16 + s) := by
            unfold tf_dc
            rw [if_pos x0, h2, nI_clamp (show u < 2 ^ 31 by omega)]
          rw [ed] at C
          refine br_t x0 ⟨vp_in_nI (by omega) (by omega), nm_e ?_⟩
          by_cases x : tp (u * 16 + s) = -1
          · exact br_t x (C c v m (by omega) hi (by rw [x, tf_mg_n]))
          · refine br_f x (pk_eq c 0 (fun hc => ?_) (fun hc => ?_))
            · refine nm_r (nI_1 c) (C (c + 1) _ m (by omega) ⟨fun z => absurd z (by omega), fun _ => x, hi.2.2⟩ ?_)
              have hm := hi.1 hc
              rw [hc, hm]
              exact tf_av_0 x
            · by_cases y : tp (u * 16 + s) = v
              · refine br_t y (nm_r (nI_1 c) (C (c + 1) v m (by omega) ⟨fun z => absurd z (by omega), fun _ => hi.2.1 hc, hi.2.2⟩ ?_))
                rw [y]
                exact tf_av_s hc (hi.2.1 hc)
              · exact br_f y (nm_r (nI_1 c) (C (c + 1) v 1 (by omega) ⟨fun z => absurd z (by omega), fun _ => hi.2.1 hc, Or.inr rfl⟩ (tf_av_d hc (hi.2.1 hc) x y)))
        · have ed : tf_dc tr ex tp k s = -1 := by
            unfold tf_dc
            rw [if_neg x0]
          exact br_f x0 (C c v m (by omega) hi (by rw [ed, tf_mg_n]))
      · refine br_f cc (nm_r (nI_1 k) (ih (k + 1) c v m (by omega) (by omega) hi ?_))
        simp only [tf_cs]
        rw [if_neg cc, he]
  unfold wpY_combine
  dsimp only
  rw [tf_ix, nI_clamp (show o * 16 + s < 2 ^ 31 by omega)]
  refine ⟨vp_in_nI (by omega) (by omega), ?_⟩
  unfold tf_pf at p
  by_cases c : own (o * 16 + s) = -1
  · rw [if_pos c] at p
    exact nm_r c (br_t rfl ⟨nK + 1, main p nK 0 0 (-1) 0 (by omega) (by omega) ⟨fun _ => rfl, fun z => absurd rfl z, Or.inl rfl⟩ rfl⟩)
  · rw [if_neg c] at p
    exact nm_e (br_f c p)
theorem ty_ct {nC nT nS nD nB nK : Nat} {dp rs st : Int32} {op kk L su own ow tr ex al tp fB fH fA fC fT fP : Nat → Int32} {post : SY → Prop} (hS : nS ≤ 16) (hT : nT ≤ 8) (hK : nK ≤ 16) (hV : tf_CV nT nS nK ow tr al) (p : ∀ g : Nat → Int32, (∀ t s, t < nT → s < nS → g (t * 16 + s) = tf_pv own ow tr ex al nK (t * 16 + s)) → post (nI nC, nI nT, nI nS, nI nD, nI nB, nI nK, dp, rs, st, op, kk, L, su, own, ow, tr, ex, al, g, fB, fH, fA, fC, fT, fP)) : wpY_computeTraits post (nI nC, nI nT, nI nS, nI nD, nI nB, nI nK, dp, rs, st, op, kk, L, su, own, ow, tr, ex, al, tp, fB, fH, fA, fC, fT, fP) := by
  have inner : ∀ (J : Int32 → (Nat → Int32) → (Nat → Int32) → (Nat → Int32) → (Nat → Int32) → (Nat → Int32) → (Nat → Int32) → (Nat → Int32) → (Nat → Int32) → (Nat → Int32) → (Nat → Int32) → (Nat → Int32) → (Nat → Int32) → (Nat → Int32) → (Nat → Int32) → (Nat → Int32) → (Nat → Int32) → Prop) (t : Nat), t < nT → (∀ g : Nat → Int32, (∀ t' s, t' < t + 1 → s < nS → g (t' * 16 + s) = tf_pv own ow tr ex al nK (t' * 16 + s)) → J (nI (t + 1)) op kk L su own ow tr ex al g fB fH fA fC fT fP) → ∀ d j (g : Nat → Int32), j + d = nS → (∀ t' s, t' < t → s < nS → g (t' * 16 + s) = tf_pv own ow tr ex al nK (t' * 16 + s)) → (∀ s, s < j → g (t * 16 + s) = tf_pv own ow tr ex al nK (t * 16 + s)) → wY_computeTraits_12 post J (nI t) (nI nC) (nI nT) (nI nS) (nI nD) (nI nB) (nI nK) dp rs st (d + 1) (nI j) op kk L su own ow tr ex al g fB fH fA fC fT fP := by
    intro J t ht hJ d
    induction d with
    | zero =>
      intro j g hj h1 h2
      have e : j = nS := by omega
      rw [e] at h2
      rw [e]
      refine br_t Int32.le_rfl (nm_r (nI_1 t) (hJ g (fun t' s ht' hs => ?_)))
      by_cases c : t' = t
      · rw [c]
        exact h2 s hs
      · exact h1 t' s (by omega) hs
    | succ d ih =>
      intro j g hj h1 h2
      have hv : tf_pf own ow tr ex al g nK (8 + t) j = tf_pv own ow tr ex al nK (t * 16 + j) := tf_pf_tr hT hS hV (by omega) (by omega) (fun u r hu hut hr => h1 u r hut hr)
      refine br_f (nI_ge (by omega) (by omega)) ?_
      rw [tf_8 t, tf_ix t j, nI_clamp (show t * 16 + j < 2 ^ 31 by omega)]
      refine ty_combine hS hT hK hV (by omega) (by omega) ⟨vp_in_nI (by omega) (by omega), nm_r (by rw [hv]) (nm_r (nI_1 j) (ih (j + 1) _ (by omega) (fun t' s ht' hs => ?_) (fun s hs => ?_)))⟩
      · rw [pk_un (by omega)]
        exact h1 t' s ht' hs
      · by_cases c : s = j
        · rw [c, pk_us]
        · rw [pk_un (by omega)]
          exact h2 s (by omega)
  have outer : ∀ d t (g : Nat → Int32), t + d = nT → (∀ t' s, t' < t → s < nS → g (t' * 16 + s) = tf_pv own ow tr ex al nK (t' * 16 + s)) → wY_computeTraits_2 post (nI nC) (nI nT) (nI nS) (nI nD) (nI nB) (nI nK) dp rs st (d + 1) (nI t) op kk L su own ow tr ex al g fB fH fA fC fT fP := by
    intro d
    induction d with
    | zero =>
      intro t g ht h1
      have e : t = nT := by omega
      rw [e] at h1
      rw [e]
      exact br_t Int32.le_rfl (p g h1)
    | succ d ih =>
      intro t g ht h1
      exact br_f (nI_ge (by omega) (by omega)) ⟨nS + 1, inner _ t (by omega) (fun g' h' => ih (t + 1) g' (by omega) h') nS 0 g (by omega) h1 (fun s hs => absurd hs (by omega))⟩
  exact ⟨nT + 1, outer nT 0 tp (by omega) (fun t' s ht' => absurd ht' (by omega))⟩
end
section
/-! the walk upward, on both sides -/
theorem tx_findHome {nC nT nS nD nB nK : Nat} {ls rr rc sp fc : Int32} {L op kk su own ow tr xe al fl fA fC fT fP fB fH : Nat → Int32} {ex : Nat → Int32} {post : Int32 → Prop} (hC : nC ≤ 8) (hS : nS ≤ 16) (hF : tf_FL nC nT nS nK own ow tr ex al fl) (hU : tf_SV nC su) {s : Nat} (hs : s < nS) {x : Int32} (hx : tf_cl nC x) (p : post (tf_fh su (fun c => tf_PR own ow tr ex al nK c s) 8 x)) : wpX_findHome post (nI nC, nI nT, nI nS, nI nD, nI nB, nI nK, ls, rr, rc, sp, fc, L, op, kk, su, own, ow, tr, xe, al, fl, fA, fC, fT, fP, fB, fH) x (nI s) := by
  have main : ∀ d i x, i + d = 8 → tf_cl nC x → post (tf_fh su (fun c => tf_PR own ow tr ex al nK c s) d x) → wX_findHome_5 post (nI s) (nI nC) (nI nT) (nI nS) (nI nD) (nI nB) (nI nK) ls rr rc sp fc L op kk su own ow tr xe al fl fA fC fT fP fB fH (d + 1) x (nI i) := by
    intro d
    induction d with
    | zero =>
      intro i x hi hx q
      exact br_t (nI_le (a := 8) (by omega) (by omega)) q
    | succ d ih =>
      intro i x hi hx q
      simp only [tf_fh] at q
      refine br_f (nI_ge (b := 8) (by omega) (by omega)) ?_
      rcases hx with e | ⟨c, hc, e⟩
      · rw [if_pos e] at q
        exact br_t e q
      · subst e
        have h1 : ¬ nI c = -1 := tf_m1 (by omega)
        rw [if_neg h1, nI_clamp (show c < 2 ^ 31 by omega)] at q
        refine br_f h1 ?_
        rw [tf_ix, nI_clamp (show c * 16 + s < 2 ^ 31 by omega), nI_clamp (show c < 2 ^ 31 by omega), hF c s (Or.inl hc) hs]
        refine ⟨vp_in_nI (by omega) (by omega), ?_⟩
        by_cases z : tf_PR own ow tr ex al nK c s = -1
        · rw [if_pos z] at q
          exact br_t z ⟨vp_in_nI (by omega) (by omega), nm_e (nm_r (nI_1 i) (ih (i + 1) _ (by omega) (tf_SV_cl hU hc) q))⟩
        · rw [if_neg z] at q
          exact br_f z q
  exact ⟨9, main 8 0 x (by omega) hx p⟩
def tf_lw (su P : Nat → Int32) (w : Int32) (d : Nat) (x : Int32) : Int32 := if w = 0 then (if tf_fh su P d x = -1 then -1 else P (tf_fh su P d x).toNatClampNeg) else tf_fh su P d x
theorem ty_lookupFrom {nC nT nS nD nB nK : Nat} {dp rs st : Int32} {op kk L su own ow tr ex al tp fB fH fA fC fT fP : Nat → Int32} {post : Int32 → SY → Prop} (hC : nC ≤ 8) (hS : nS ≤ 16) (hT : nT ≤ 8) (hK : nK ≤ 16) (hV : tf_CV nT nS nK ow tr al) (hU : tf_SV nC su) {s : Nat} (hs : s < nS) {x w : Int32} (hx : tf_cl nC x) (p : ∀ g : Nat → Int32, post (tf_lw su (fun c => tf_PR own ow tr ex al nK c s) w 8 x) (nI nC, nI nT, nI nS, nI nD, nI nB, nI nK, dp, rs, st, op, kk, L, su, own, ow, tr, ex, al, g, fB, fH, fA, fC, fT, fP)) : wpY_lookupFrom post (nI nC, nI nT, nI nS, nI nD, nI nB, nI nK, dp, rs, st, op, kk, L, su, own, ow, tr, ex, al, tp, fB, fH, fA, fC, fT, fP) x (nI s) w := by
  have main : ∀ (g : Nat → Int32), (∀ t s, t < nT → s < nS → g (t * 16 + s) = tf_pv own ow tr ex al nK (t * 16 + s)) → ∀ d i x, i + d = 8 → tf_cl nC x → post (tf_lw su (fun c => tf_PR own ow tr ex al nK c s) w d x) (nI nC, nI nT, nI nS, nI nD, nI nB, nI nK, dp, rs, st, op, kk, L, su, own, ow, tr, ex, al, g, fB, fH, fA, fC, fT, fP) → wY_lookupFrom_10 post (nI s) w (nI nC) (nI nT) (nI nS) (nI nD) (nI nB) (nI nK) dp rs st op kk L su own ow tr ex al g fB fH fA fC fT fP (d + 1) x (nI i) := by
    intro g hg d
    induction d with
    | zero =>
      intro i x hi hx q
      unfold tf_lw at q
      simp only [tf_fh] at q
      refine br_t (nI_le (a := 8) (by omega) (by omega)) ?_
      by_cases hw : w = 0
      · rw [if_pos hw, if_pos trivial] at q
        exact q
      · rw [if_neg hw] at q
        exact q
    | succ d ih =>
      intro i x hi hx q
      refine br_f (nI_ge (b := 8) (by omega) (by omega)) ?_
      unfold tf_lw at q
      simp only [tf_fh] at q
      rcases hx with e | ⟨c, hc, e⟩
      · subst e
        rw [if_pos rfl, if_pos rfl] at q
        refine br_t (by decide) ?_
        by_cases hw : w = 0
        · rw [if_pos hw] at q
          exact q
        · rw [if_neg hw] at q
          exact q
      · subst e
        have h1 : ¬ nI c = -1 := tf_m1 (by omega)
        rw [if_neg h1, nI_clamp (show c < 2 ^ 31 by omega)] at q
        have hv : tf_pf own ow tr ex al g nK c s = tf_PR own ow tr ex al nK c s := tf_pf_congr hT hS hV (by omega) hs (fun u r hu _ hr => hg u r hu hr)
        refine br_f (nI_pos (by omega)) (br_t (nI_lt hc (by omega)) (ty_combine hS hT hK hV (by omega) hs ?_))
        rw [hv]
        by_cases z : tf_PR own ow tr ex al nK c s = -1
        · rw [if_pos z] at q
          refine br_t z ⟨vp_in_nI (by omega) (by omega), nm_e ?_⟩
          rw [nI_clamp (show c < 2 ^ 31 by omega)]
          exact nm_r (nI_1 i) (ih (i + 1) _ (by omega) (tf_SV_cl hU hc) q)
        · rw [if_neg z] at q
          refine br_f z ?_
          by_cases hw : w = 0
          · rw [if_pos hw, if_neg h1, nI_clamp (show c < 2 ^ 31 by omega)] at q
            exact br_t hw q
          · rw [if_neg hw] at q
            exact br_f hw q
  exact ty_ct hS hT hK hV (fun g hg => ⟨9, main g hg 8 0 x (by omega) hx (p g)⟩)
/-! a send, on both sides: it ends the run with a status, or makes a frame -/
def tf_SE (nC nB nD d : Nat) (su P : Nat → Int32) (x z : Int32) : Prop := (z = 2 ∧ tf_fh su P 8 x = -1) ∨ (z = 3 ∧ ∃ h, h < nC ∧ tf_fh su P 8 x = nI h ∧ P h = -2) ∨ (z = 4 ∧ d = nD ∧ ∃ h, h < nC ∧ tf_fh su P 8 x = nI h ∧ ∃ b, b < nB ∧ P h = nI b)
def tf_SP (nC nB nD d : Nat) (su P : Nat → Int32) (x : Int32) (b h : Nat) : Prop := h < nC ∧ b < nB ∧ d < nD ∧ tf_fh su P 8 x = nI h ∧ P h = nI b
theorem tf_send {nC nB nD d : Nat} {su P : Nat → Int32} {x : Int32} (hC : nC ≤ 8) (hU : tf_SV nC su) (hP : ∀ c, c < nC → tf_gv nB (P c)) (hx : tf_cl nC x) (hd : d ≤ nD) : (∃ z, tf_SE nC nB nD d su P x z) ∨ ∃ b h, tf_SP nC nB nD d su P x b h := by
  rcases tf_fh_cl (P := P) hC hU 8 x hx with e | ⟨h, hh, e, hn⟩
  · exact Or.inl ⟨2, Or.inl ⟨rfl, e⟩⟩
  · rcases hP h hh with g | g | ⟨b, hb, g⟩
    · exact absurd g hn
    · exact Or.inl ⟨3, Or.inr (Or.inl ⟨rfl, h, hh, e, g⟩)⟩
    · by_cases c : d = nD
      · exact Or.inl ⟨4, Or.inr (Or.inr ⟨rfl, c, h, hh, e, b, hb, g⟩)⟩
      · exact Or.inr ⟨b, h, hh, hb, by omega, e, g⟩
theorem tx_send_e {nC nT nS nD nB nK : Nat} {ls rr rc sp : Int32} {L op kk su own ow tr xe al fl fA fC fT fP fB fH : Nat → Int32} {ex : Nat → Int32} {post : SX → Prop} (hC : nC ≤ 8) (hS : nS ≤ 16) (hB : nB ≤ 16) (hD : nD ≤ 16) (hF : tf_FL nC nT nS nK own ow tr ex al fl) (hU : tf_SV nC su) {s d : Nat} (hs : s < nS) {x y z : Int32} (hx : tf_cl nC x) (hd : d ≤ nD) (h : tf_SE nC nB nD d su (fun c => tf_PR own ow tr ex al nK c s) x z) (p : post (nI nC, nI nT, nI nS, nI nD, nI nB, nI nK, z, 0, rc, sp, 0, L, op, kk, su, own, ow, tr, xe, al, fl, fA, fC, fT, fP, fB, fH)) : wpX_send post (nI nC, nI nT, nI nS, nI nD, nI nB, nI nK, ls, rr, rc, sp, nI d, L, op, kk, su, own, ow, tr, xe, al, fl, fA, fC, fT, fP, fB, fH) (nI s) y x := by
  unfold wpX_send
  refine tx_findHome hC hS hF hU hs hx ?_
  rcases h with ⟨rfl, e⟩ | ⟨rfl, h, hh, e, g⟩ | ⟨rfl, hd, h, hh, e, b, hb, g⟩
  · exact br_t e p
  · rw [e]
    refine br_f (tf_m1 (by omega)) ?_
    rw [tf_ix, nI_clamp (show h * 16 + s < 2 ^ 31 by omega), hF h s (Or.inl hh) hs]
    exact ⟨vp_in_nI (by omega) (by omega), nm_r g (br_t rfl p)⟩
  · rw [e]
    refine br_f (tf_m1 (by omega)) ?_
    rw [tf_ix, nI_clamp (show h * 16 + s < 2 ^ 31 by omega), hF h s (Or.inl hh) hs]
    exact ⟨vp_in_nI (by omega) (by omega), nm_r g (br_f (tf_m2 (by omega)) (br_t (by rw [hd]) p))⟩
theorem tx_send_p {nC nT nS nD nB nK : Nat} {ls rr rc sp : Int32} {L op kk su own ow tr xe al fl fA fC fT fP fB fH : Nat → Int32} {ex : Nat → Int32} {post : SX → Prop} (hC : nC ≤ 8) (hS : nS ≤ 16) (hB : nB ≤ 16) (hD : nD ≤ 16) (hF : tf_FL nC nT nS nK own ow tr ex al fl) (hU : tf_SV nC su) {s d b g : Nat} (hs : s < nS) {x y : Int32} (hx : tf_cl nC x) (h : tf_SP nC nB nD d su (fun c => tf_PR own ow tr ex al nK c s) x b g) (p : post (nI nC, nI nT, nI nS, nI nD, nI nB, nI nK, ls, rr, rc, sp, nI (d + 1), L, op, kk, su, own, ow, tr, xe, al, fl, upd fA d y, upd fC d y, upd fT d 0, upd fP d 0, upd fB d (nI b), upd fH d (nI g))) : wpX_send post (nI nC, nI nT, nI nS, nI nD, nI nB, nI nK, ls, rr, rc, sp, nI d, L, op, kk, su, own, ow, tr, xe, al, fl, fA, fC, fT, fP, fB, fH) (nI s) y x := by
  unfold wpX_send
  refine tx_findHome hC hS hF hU hs hx ?_
  obtain ⟨hg, hb, hd, e, g2⟩ := h
  have g3 : tf_PR own ow tr ex al nK g s = nI b := g2
  rw [e]
  refine br_f (tf_m1 (by omega)) ?_
  rw [tf_ix, nI_clamp (show g * 16 + s < 2 ^ 31 by omega), hF g s (Or.inl hg) hs]
  refine ⟨vp_in_nI (by omega) (by omega), nm_r g3 (br_f (tf_m2 (by omega)) (br_f (by rw [nI_eq (by omega) (by omega)]; omega) ?_))⟩
  unfold wpX_pushFrame
  dsimp only
  rw [nI_clamp (show d < 2 ^ 31 by omega)]
  have hv : vp_in (nI d) 16 := vp_in_nI (by omega) (by omega)
  exact ⟨hv, nm_e ⟨hv, nm_e ⟨hv, nm_e ⟨hv, nm_e ⟨hv, nm_e ⟨hv, nm_e (nm_r (nI_1 d) p)⟩⟩⟩⟩⟩⟩
theorem tf_lw1 {su P : Nat → Int32} {x : Int32} : tf_lw su P 1 8 x = tf_fh su P 8 x := if_neg (by decide)
theorem tf_lw0n {su P : Nat → Int32} {x : Int32} (e : tf_fh su P 8 x = -1) : tf_lw su P 0 8 x = -1 := by
  unfold tf_lw
  rw [if_pos rfl, if_pos e]
theorem tf_lw0s {su P : Nat → Int32} {x : Int32} {h : Nat} (hh : h < 8) (e : tf_fh su P 8 x = nI h) : tf_lw su P 0 8 x = P h := by
  unfold tf_lw
  rw [if_pos rfl, e, if_neg (tf_m1 (by omega)), nI_clamp (by omega)]
theorem ty_send_e {nC nT nS nD nB nK : Nat} {rs st : Int32} {op kk L su own ow tr ex al tp fB fH fA fC fT fP : Nat → Int32} {post : Int32 → SY → Prop} (hC : nC ≤ 8) (hS : nS ≤ 16) (hT : nT ≤ 8) (hK : nK ≤ 16) (hB : nB ≤ 16) (hD : nD ≤ 16) (hV : tf_CV nT nS nK ow tr al) (hU : tf_SV nC su) {s d : Nat} (hs : s < nS) {x y z : Int32} (hx : tf_cl nC x) (hd : d ≤ nD) (h : tf_SE nC nB nD d su (fun c => tf_PR own ow tr ex al nK c s) x z) (p : ∀ g : Nat → Int32, post z (nI nC, nI nT, nI nS, nI nD, nI nB, nI nK, nI d, rs, st, op, kk, L, su, own, ow, tr, ex, al, g, fB, fH, fA, fC, fT, fP)) : wpY_send post (nI nC, nI nT, nI nS, nI nD, nI nB, nI nK, nI d, rs, st, op, kk, L, su, own, ow, tr, ex, al, tp, fB, fH, fA, fC, fT, fP) (nI s) y x := by
  unfold wpY_send
  refine ty_lookupFrom hC hS hT hK hV hU hs hx (fun tp' => ?_)
  rcases h with ⟨rfl, e⟩ | ⟨rfl, h, hh, e, g⟩ | ⟨rfl, hd, h, hh, e, b, hb, g⟩
  · rw [tf_lw0n e]
    exact br_t rfl (p tp')
  · have g3 : tf_PR own ow tr ex al nK h s = -2 := g
    rw [tf_lw0s (by omega) e, g3]
    exact br_f (by decide) (br_t rfl (p tp'))
  · have g3 : tf_PR own ow tr ex al nK h s = nI b := g
    rw [tf_lw0s (by omega) e, g3]
    exact br_f (tf_m1 (by omega)) (br_f (tf_m2 (by omega)) (br_f (by rw [hd]; exact Int32.lt_irrefl) (p tp')))
theorem ty_send_p {nC nT nS nD nB nK : Nat} {rs st : Int32} {op kk L su own ow tr ex al tp fB fH fA fC fT fP : Nat → Int32} {post : Int32 → SY → Prop} (hC : nC ≤ 8) (hS : nS ≤ 16) (hT : nT ≤ 8) (hK : nK ≤ 16) (hB : nB ≤ 16) (hD : nD ≤ 16) (hV : tf_CV nT nS nK ow tr al) (hU : tf_SV nC su) {s d b g : Nat} (hs : s < nS) {x y : Int32} (hx : tf_cl nC x) (h : tf_SP nC nB nD d su (fun c => tf_PR own ow tr ex al nK c s) x b g) (p : ∀ t : Nat → Int32, post 0 (nI nC, nI nT, nI nS, nI nD, nI nB, nI nK, nI (d + 1), rs, st, op, kk, L, su, own, ow, tr, ex, al, t, upd fB d (nI b), upd fH d (nI g), upd fA d y, upd fC d y, upd fT d 0, upd fP d 0)) : wpY_send post (nI nC, nI nT, nI nS, nI nD, nI nB, nI nK, nI d, rs, st, op, kk, L, su, own, ow, tr, ex, al, tp, fB, fH, fA, fC, fT, fP) (nI s) y x := by
  unfold wpY_send
  refine ty_lookupFrom hC hS hT hK hV hU hs hx (fun tp' => ?_)
  obtain ⟨hg, hb, hd, e, g2⟩ := h
  have g3 : tf_PR own ow tr ex al nK g s = nI b := g2
  rw [tf_lw0s (by omega) e, g3]
  refine br_f (tf_m1 (by omega)) (br_f (tf_m2 (by omega)) (br_t (nI_lt hd (by omega)) (ty_lookupFrom hC hS hT hK hV hU hs hx (fun tp2 => ?_))))
  rw [tf_lw1, e]
  dsimp only
  rw [nI_clamp (show d < 2 ^ 31 by omega)]
  have hv : vp_in (nI d) 16 := vp_in_nI (by omega) (by omega)
  exact ⟨hv, nm_e ⟨hv, nm_e ⟨hv, nm_e ⟨hv, nm_e ⟨hv, nm_e ⟨hv, nm_e (nm_r (nI_1 d) (p tp2))⟩⟩⟩⟩⟩⟩
end
section
/-! the constructors -/
theorem tx_clamp {post : Int32 → Prop} {v : Int32} {g : Nat} (p : post (nI (tf_cp v g))) : wpX_clamp post v (nI g) := by
  by_cases c : v < 1
  · rw [tf_cp_1 c] at p
    exact br_f (Int32.not_le.mpr c) p
  · by_cases c2 : nI g < v
    · rw [tf_cp_g c c2] at p
      exact br_t (Int32.not_lt.mp c) (br_f (Int32.not_le.mpr c2) p)
    · rw [tf_cp_v c c2] at p
      exact br_t (Int32.not_lt.mp c) (br_t (Int32.not_lt.mp c2) p)
theorem ty_clamp {x1 x2 x3 x4 x5 x6 dp rs st : Int32} {op kk L su own ow tr ex al tp fB fH fA fC fT fP : Nat → Int32} {post : Int32 → Prop} {v : Int32} {g : Nat} (p : post (nI (tf_cp v g))) : wpY_clamp post (x1, x2, x3, x4, x5, x6, dp, rs, st, op, kk, L, su, own, ow, tr, ex, al, tp, fB, fH, fA, fC, fT, fP) v 1 (nI g) := by
  by_cases c : v < 1
  · rw [tf_cp_1 c] at p
    exact br_f (Int32.not_le.mpr c) p
  · by_cases c2 : nI g < v
    · rw [tf_cp_g c c2] at p
      exact br_t (Int32.not_lt.mp c) (br_f (Int32.not_le.mpr c2) p)
    · rw [tf_cp_v c c2] at p
      exact br_t (Int32.not_lt.mp c) (br_t (Int32.not_lt.mp c2) p)
theorem tx_init {nC nT nS nD nB nK : Nat} {ls rr rc sp fc : Int32} {L op kk ow tr xe fA fC fT fP fB fH : Nat → Int32} {post : SX → Prop} (p : post (nI nC, nI nT, nI nS, nI nD, nI nB, nI nK, ls, rr, rc, sp, fc, L, op, kk, tf_ini 8, tf_ini 256, ow, tr, xe, tf_ini 256, tf_ini 256, fA, fC, fT, fP, fB, fH)) : ∃ n, wX_init_216 post (nI nC) (nI nT) (nI nS) (nI nD) (nI nB) (nI nK) ls rr rc sp fc n 0 L op kk (tf_ini 0) (tf_ini 0) ow tr xe (tf_ini 0) (tf_ini 0) fA fC fT fP fB fH := by
  have c3 : ∀ d j, j + d = 256 → wX_init_273 post (nI nC) (nI nT) (nI nS) (nI nD) (nI nB) (nI nK) ls rr rc sp fc (d + 1) (nI j) L op kk (tf_ini 8) (tf_ini 256) ow tr xe (tf_ini j) (tf_ini 256) fA fC fT fP fB fH := by
    intro d
    induction d with
    | zero =>
      intro j hj
      have e : j = 256 := by omega
      rw [e]
      exact br_t (nI_le (a := 256) (by omega) (by omega)) p
    | succ d ih =>
      intro j hj
      exact br_f (nI_ge (b := 256) (by omega) (by omega)) ⟨vp_in_nI (by omega) (by omega), nm_r (by rw [nI_clamp (by omega), tf_ini_s]) (nm_r (nI_1 j) (ih (j + 1) (by omega)))⟩
  have c2 : ∀ d j, j + d = 256 → wX_init_240 post (nI nC) (nI nT) (nI nS) (nI nD) (nI nB) (nI nK) ls rr rc sp fc (d + 1) (nI j) L op kk (tf_ini 8) (tf_ini j) ow tr xe (tf_ini 0) (tf_ini j) fA fC fT fP fB fH := by
    intro d
    induction d with
    | zero =>
      intro j hj
      have e : j = 256 := by omega
      rw [e]
      exact br_t (nI_le (a := 256) (by omega) (by omega)) ⟨257, c3 256 0 rfl⟩
    | succ d ih =>
      intro j hj
      exact br_f (nI_ge (b := 256) (by omega) (by omega)) ⟨vp_in_nI (by omega) (by omega), nm_r (by rw [nI_clamp (by omega), tf_ini_s]) ⟨vp_in_nI (by omega) (by omega), nm_r (by rw [nI_clamp (by omega), tf_ini_s]) (nm_r (nI_1 j) (ih (j + 1) (by omega)))⟩⟩
  have c1 : ∀ d j, j + d = 8 → wX_init_216 post (nI nC) (nI nT) (nI nS) (nI nD) (nI nB) (nI nK) ls rr rc sp fc (d + 1) (nI j) L op kk (tf_ini j) (tf_ini 0) ow tr xe (tf_ini 0) (tf_ini 0) fA fC fT fP fB fH := by
    intro d
    induction d with
    | zero =>
      intro j hj
      have e : j = 8 := by omega
      rw [e]
      exact br_t (nI_le (a := 8) (by omega) (by omega)) ⟨257, c2 256 0 rfl⟩
    | succ d ih =>
      intro j hj
      exact br_f (nI_ge (b := 8) (by omega) (by omega)) ⟨vp_in_nI (by omega) (by omega), nm_r (by rw [nI_clamp (by omega), tf_ini_s]) (nm_r (nI_1 j) (ih (j + 1) (by omega)))⟩
  exact ⟨9, c1 8 0 rfl⟩
theorem ty_init {nC nT nS nD nB nK : Nat} {dp rs : Int32} {op kk L ow tr ex tp fB fH fA fC fT fP : Nat → Int32} {s0 : Int32} {post : SY → Prop} (p : post (nI nC, nI nT, nI nS, nI nD, nI nB, nI nK, dp, rs, 0, op, kk, L, tf_ini 8, tf_ini 256, ow, tr, ex, tf_ini 256, tp, fB, fH, fA, fC, fT, fP)) : ∃ n, wY_init_190 post (nI nC) (nI nT) (nI nS) (nI nD) (nI nB) (nI nK) dp rs s0 n 0 op kk L (tf_ini 0) (tf_ini 0) ow tr ex (tf_ini 0) tp fB fH fA fC fT fP := by
  have c2 : ∀ d j, j + d = 256 → wY_init_214 post (nI nC) (nI nT) (nI nS) (nI nD) (nI nB) (nI nK) dp rs s0 (d + 1) (nI j) op kk L (tf_ini 8) (tf_ini j) ow tr ex (tf_ini j) tp fB fH fA fC fT fP := by
    intro d
    induction d with
    | zero =>
      intro j hj
      have e : j = 256 := by omega
      rw [e]
      exact br_t (nI_le (a := 256) (by omega) (by omega)) p
    | succ d ih =>
      intro j hj
      exact br_f (nI_ge (b := 256) (by omega) (by omega)) ⟨vp_in_nI (by omega) (by omega), nm_r (by rw [nI_clamp (by omega), tf_ini_s]) ⟨vp_in_nI (by omega) (by omega), nm_r (by rw [nI_clamp (by omega), tf_ini_s]) (nm_r (nI_1 j) (ih (j + 1) (by omega)))⟩⟩
  have c1 : ∀ d j, j + d = 8 → wY_init_190 post (nI nC) (nI nT) (nI nS) (nI nD) (nI nB) (nI nK) dp rs s0 (d + 1) (nI j) op kk L (tf_ini j) (tf_ini 0) ow tr ex (tf_ini 0) tp fB fH fA fC fT fP := by
    intro d
    induction d with
    | zero =>
      intro j hj
      have e : j = 8 := by omega
      rw [e]
      exact br_t (nI_le (a := 8) (by omega) (by omega)) ⟨257, c2 256 0 rfl⟩
    | succ d ih =>
      intro j hj
      exact br_f (nI_ge (b := 8) (by omega) (by omega)) ⟨vp_in_nI (by omega) (by omega), nm_r (by rw [nI_clamp (by omega), tf_ini_s]) (nm_r (nI_1 j) (ih (j + 1) (by omega)))⟩
  exact ⟨9, c1 8 0 rfl⟩
theorem i_up {k : Nat} {u : SX} {v : SY} (h : i_Rel k u v) : i_Rel (k + 4) u v := h
theorem i_vc0 (k0 : Int32) (k1 : Int32) (k2 : Int32) (k3 : Int32) : wpX_init (fun u => wpY_init (fun v => i_Rel 4 u v) k0 k1 k2 k3) k0 k1 k2 k3 := by
  have hY := fun (u : SX) (p : i_Rel 4 u (nI (tf_cp k0 8), nI (tf_cp k1 8), nI (tf_cp k2 16), nI (tf_cp k3 16), nI 0, nI 0, 0, 0, 0, fun _ => 0, fun _ => 0, fun _ => 0, tf_ini 8, tf_ini 256, fun _ => 0, fun _ => 0, fun _ => 0, tf_ini 256, fun _ => 0, fun _ => 0, fun _ => 0, fun _ => 0, fun _ => 0, fun _ => 0, fun _ => 0)) => ty_init (s0 := 0) (post := fun v => i_Rel 4 u v) p
  have hX := fun (post : SX → Prop) (p : post (nI (tf_cp k0 8), nI (tf_cp k1 8), nI (tf_cp k2 16), nI (tf_cp k3 16), nI 0, nI 0, 0, 0, 0, 0, 0, fun _ => 0, fun _ => 0, fun _ => 0, tf_ini 8, tf_ini 256, fun _ => 0, fun _ => 0, fun _ => 0, tf_ini 256, tf_ini 256, fun _ => 0, fun _ => 0, fun _ => 0, fun _ => 0, fun _ => 0, fun _ => 0)) => tx_init (post := post) p
  rw [tf_ini_0] at hX
  rw [tf_ini_0] at hY
  unfold wpX_init
  refine tx_clamp (g := 8) (tx_clamp (g := 8) (tx_clamp (g := 16) (tx_clamp (g := 16) (hX _ ?_))))
  unfold wpY_init
  refine ty_clamp (g := 8) (ty_clamp (g := 8) (ty_clamp (g := 16) (ty_clamp (g := 16) (hY _ ?_))))
  exact tf_mk (tf_ok0 (tf_cp_in k0 (by decide) (by decide)) (tf_cp_in k1 (by decide) (by decide)) (tf_cp_in k2 (by decide) (by decide)) (tf_cp_in k3 (by decide) (by decide)))
end
section
/-! bodies and cells -/
theorem tx_sel_t {post : Int32 → Prop} {o : Nat} (h : o = 6 ∨ o = 7) (p : post 1) : wpX_takesSelector post (nI o) := by
  rcases h with rfl | rfl
  · exact br_t rfl p
  · exact br_f (by decide) (br_t rfl p)
theorem tx_sel_f {post : Int32 → Prop} {o : Nat} (h9 : o < 9) (h : ¬ (o = 6 ∨ o = 7)) (p : post 0) : wpX_takesSelector post (nI o) := pk_eq o 6 (fun z => absurd (Or.inl z) h) (fun _ => pk_eq o 7 (fun z => absurd (Or.inr z) h) (fun _ => p))
theorem tx_num_t {post : Int32 → Prop} {o : Nat} (h : o = 1 ∨ o = 2 ∨ o = 3) (p : post 1) : wpX_takesNumber post (nI o) := by
  rcases h with rfl | rfl | rfl
  · exact br_t rfl p
  · exact br_f (by decide) (br_t rfl p)
  · exact br_f (by decide) (br_f (by decide) (br_t rfl p))
theorem tx_num_f {post : Int32 → Prop} {o : Nat} (h9 : o < 9) (h : ¬ (o = 1 ∨ o = 2 ∨ o = 3)) (p : post 0) : wpX_takesNumber post (nI o) := pk_eq o 1 (fun z => absurd (Or.inl z) h) (fun _ => pk_eq o 2 (fun z => absurd (Or.inr (Or.inl z)) h) (fun _ => pk_eq o 3 (fun z => absurd (Or.inr (Or.inr z)) h) (fun _ => p)))
/-- the operand fits, and k is what is kept -/
def tf_ft (nS o : Nat) (v k : Int32) : Prop := ((o = 6 ∨ o = 7) ∧ tf_in v nS ∧ k = v) ∨ ((o = 1 ∨ o = 2 ∨ o = 3) ∧ ¬ v < (-128) ∧ ¬ 127 < v ∧ k = v) ∨ ((o = 0 ∨ o = 4 ∨ o = 5 ∨ o = 8) ∧ k = 0)
def tf_nf (nS o : Nat) (v : Int32) : Prop := ((o = 6 ∨ o = 7) ∧ ¬ tf_in v nS) ∨ ((o = 1 ∨ o = 2 ∨ o = 3) ∧ (v < (-128) ∨ (¬ v < (-128) ∧ 127 < v)))
theorem tf_fit (nS : Nat) {o : Nat} (h : o < 9) (v : Int32) : (∃ k, tf_ft nS o v k) ∨ tf_nf nS o v := by
  by_cases a : o = 6 ∨ o = 7
  · by_cases b : tf_in v nS
    · exact Or.inl ⟨v, Or.inl ⟨a, b, rfl⟩⟩
    · exact Or.inr (Or.inl ⟨a, b⟩)
  · by_cases b : o = 1 ∨ o = 2 ∨ o = 3
    · by_cases c : v < (-128)
      · exact Or.inr (Or.inr ⟨b, Or.inl c⟩)
      · by_cases d : 127 < v
        · exact Or.inr (Or.inr ⟨b, Or.inr ⟨c, d⟩⟩)
        · exact Or.inl ⟨v, Or.inr (Or.inl ⟨b, c, d, rfl⟩)⟩
    · exact Or.inl ⟨0, Or.inr (Or.inr ⟨by omega, rfl⟩)⟩
theorem tx_fits_t {nC nT nS nD nB nK : Nat} {ls rr rc sp fc : Int32} {L op kk su own ow tr xe al fl fA fC fT fP fB fH : Nat → Int32} {post : Int32 → Prop} {o : Nat} {v k : Int32} (hS : nS ≤ 16) (h9 : o < 9) (h : tf_ft nS o v k) (p : post 1) : wpX_operandFits post (nI nC, nI nT, nI nS, nI nD, nI nB, nI nK, ls, rr, rc, sp, fc, L, op, kk, su, own, ow, tr, xe, al, fl, fA, fC, fT, fP, fB, fH) (nI o) v := by
  unfold wpX_operandFits
  rcases h with ⟨a, b, _⟩ | ⟨a, b, c, _⟩ | ⟨a, _⟩
  · exact tx_sel_t a (br_f (by decide) (tx_isSelector_t hS b ⟨rfl, p⟩))
  · exact tx_sel_f h9 (by omega) (br_t rfl (tx_num_t a (br_f (by decide) (br_f b (br_f c p)))))
  · exact tx_sel_f h9 (by omega) (br_t rfl (tx_num_f h9 (by omega) (br_t rfl p)))
theorem tx_fits_f {nC nT nS nD nB nK : Nat} {ls rr rc sp fc : Int32} {L op kk su own ow tr xe al fl fA fC fT fP fB fH : Nat → Int32} {post : Int32 → Prop} {o : Nat} {v : Int32} (hS : nS ≤ 16) (h9 : o < 9) (h : tf_nf nS o v) (p : post 0) : wpX_operandFits post (nI nC, nI nT, nI nS, nI nD, nI nB, nI nK, ls, rr, rc, sp, fc, L, op, kk, su, own, ow, tr, xe, al, fl, fA, fC, fT, fP, fB, fH) (nI o) v := by
  unfold wpX_operandFits
  rcases h with ⟨a, b⟩ | ⟨a, b | ⟨b, c⟩⟩
  · exact tx_sel_t a (br_f (by decide) (tx_isSelector_f hS b ⟨rfl, p⟩))
  · exact tx_sel_f h9 (by omega) (br_t rfl (tx_num_t a (br_f (by decide) (br_t b p))))
  · exact tx_sel_f h9 (by omega) (br_t rfl (tx_num_t a (br_f (by decide) (br_f b (br_t c p)))))
theorem tf_le8 {o : Nat} (h : o < 9) : nI o ≤ 8 := nI_le (b := 8) (by omega) (by omega)
theorem tf_gt8 {v : Int32} (h : nI 9 ≤ v) : ¬ v < 0 ∧ ¬ v ≤ 8 := by
  refine ⟨tf_ge0 (by omega) h, fun z => ?_⟩
  have h2 := Int32.le_trans h z
  exact absurd h2 (by decide)
/-- a call of emit, whatever is asked: nothing changes, or one cell is added -/
theorem tx_emit_0 {nC nT nS nD nK : Nat} {ls rr rc sp fc : Int32} {L op kk su own ow tr xe al fl fA fC fT fP fB fH : Nat → Int32} {post : Int32 → SX → Prop} {v1 v2 : Int32} (p : post 0 (nI nC, nI nT, nI nS, nI nD, nI 0, nI nK, ls, rr, rc, sp, fc, L, op, kk, su, own, ow, tr, xe, al, fl, fA, fC, fT, fP, fB, fH)) : wpX_emit post (nI nC, nI nT, nI nS, nI nD, nI 0, nI nK, ls, rr, rc, sp, fc, L, op, kk, su, own, ow, tr, xe, al, fl, fA, fC, fT, fP, fB, fH) v1 v2 := br_t rfl p
theorem tx_emit_b {nC nT nS nD nK : Nat} {ls rr rc sp fc : Int32} {L op kk su own ow tr xe al fl fA fC fT fP fB fH : Nat → Int32} {b : Nat} {post : Int32 → SX → Prop} {v1 v2 : Int32} (hb : b < 16) (h : ¬ tf_in v1 9) (p : post 0 (nI nC, nI nT, nI nS, nI nD, nI (b + 1), nI nK, ls, rr, rc, sp, fc, L, op, kk, su, own, ow, tr, xe, al, fl, fA, fC, fT, fP, fB, fH)) : wpX_emit post (nI nC, nI nT, nI nS, nI nD, nI (b + 1), nI nK, ls, rr, rc, sp, fc, L, op, kk, su, own, ow, tr, xe, al, fl, fA, fC, fT, fP, fB, fH) v1 v2 := by
  refine br_f (nI_ne0 (by omega) (by omega)) ?_
  rcases tf_nin (n := 9) (by omega) h with a | ⟨a, c, _⟩
  · exact br_t a p
  · exact br_f a (br_f (tf_gt8 c).2 p)
theorem tx_emit_16 {nC nT nS nD nK : Nat} {ls rr rc sp fc : Int32} {L op kk su own ow tr xe al fl fA fC fT fP fB fH : Nat → Int32} {b o : Nat} {post : Int32 → SX → Prop} {v2 : Int32} (hb : b < 16) (h9 : o < 9) (hl : L b = nI 16) (p : post 0 (nI nC, nI nT, nI nS, nI nD, nI (b + 1), nI nK, ls, rr, rc, sp, fc, L, op, kk, su, own, ow, tr, xe, al, fl, fA, fC, fT, fP, fB, fH)) : wpX_emit post (nI nC, nI nT, nI nS, nI nD, nI (b + 1), nI nK, ls, rr, rc, sp, fc, L, op, kk, su, own, ow, tr, xe, al, fl, fA, fC, fT, fP, fB, fH) (nI o) v2 := by
  refine br_f (nI_ne0 (by omega) (by omega)) (br_f (nI_pos (by omega)) (br_t (tf_le8 h9) (nm_r (nI_pred b) ⟨vp_in_nI hb (by omega), ?_⟩)))
  rw [nI_clamp (show b < 2 ^ 31 by omega), hl]
  exact br_t rfl p
theorem tx_emit_n {nC nT nS nD nK : Nat} {ls rr rc sp fc : Int32} {L op kk su own ow tr xe al fl fA fC fT fP fB fH : Nat → Int32} {b o l : Nat} {post : Int32 → SX → Prop} {v2 : Int32} (hS : nS ≤ 16) (hb : b < 16) (h9 : o < 9) (hl : L b = nI l) (l16 : l < 16) (h : tf_nf nS o v2) (p : post 0 (nI nC, nI nT, nI nS, nI nD, nI (b + 1), nI nK, ls, rr, rc, sp, fc, L, op, kk, su, own, ow, tr, xe, al, fl, fA, fC, fT, fP, fB, fH)) : wpX_emit post (nI nC, nI nT, nI nS, nI nD, nI (b + 1), nI nK, ls, rr, rc, sp, fc, L, op, kk, su, own, ow, tr, xe, al, fl, fA, fC, fT, fP, fB, fH) (nI o) v2 := by
  refine br_f (nI_ne0 (by omega) (by omega)) (br_f (nI_pos (by omega)) (br_t (tf_le8 h9) (nm_r (nI_pred b) ⟨vp_in_nI hb (by omega), ?_⟩)))
  rw [nI_clamp (show b < 2 ^ 31 by omega), hl]
  exact pk_eq l 16 (fun z => absurd z (by omega)) (fun _ => tx_fits_f hS h9 h (br_t rfl p))
theorem tx_emit_t {nC nT nS nD nK : Nat} {ls rr rc sp fc : Int32} {L op kk su own ow tr xe al fl fA fC fT fP fB fH : Nat → Int32} {b o l : Nat} {post : Int32 → SX → Prop} {v2 k : Int32} (hS : nS ≤ 16) (hb : b < 16) (h9 : o < 9) (hl : L b = nI l) (l16 : l < 16) (h : tf_ft nS o v2 k) (p : post 1 (nI nC, nI nT, nI nS, nI nD, nI (b + 1), nI nK, ls, rr, rc, sp, fc, upd L b (nI (l + 1)), upd op (b * 16 + l) (nI o), upd kk (b * 16 + l) k, su, own, ow, tr, xe, al, fl, fA, fC, fT, fP, fB, fH)) : wpX_emit post (nI nC, nI nT, nI nS, nI nD, nI (b + 1), nI nK, ls, rr, rc, sp, fc, L, op, kk, su, own, ow, tr, xe, al, fl, fA, fC, fT, fP, fB, fH) (nI o) v2 := by
  refine br_f (nI_ne0 (by omega) (by omega)) (br_f (nI_pos (by omega)) (br_t (tf_le8 h9) (nm_r (nI_pred b) ⟨vp_in_nI hb (by omega), ?_⟩)))
  rw [nI_clamp (show b < 2 ^ 31 by omega), hl]
  have F : ∀ z0 : Int32, z0 = k → wX_emit_94 post (nI b) z0 (nI (b * 16 + l)) (nI nC) (nI nT) (nI nS) (nI nD) (nI (b + 1)) (nI nK) ls rr rc sp fc L (upd op (b * 16 + l) (nI o)) kk su own ow tr xe al fl fA fC fT fP fB fH := by
    intro z0 e
    unfold wX_emit_94
    rw [nI_clamp (show b * 16 + l < 2 ^ 31 by omega), nI_clamp (show b < 2 ^ 31 by omega), hl, nI_1, e]
    exact ⟨vp_in_nI (by omega) (by omega), nm_e ⟨vp_in_nI hb (by omega), vp_in_nI hb (by omega), nm_e p⟩⟩
  refine pk_eq l 16 (fun z => absurd z (by omega)) (fun _ => tx_fits_t hS h9 h (br_f (by decide) ⟨vp_in_nI hb (by omega), nm_r (tf_ix b l) ⟨vp_in_nI (by omega) (by omega), ?_⟩⟩))
  rw [nI_clamp (show b * 16 + l < 2 ^ 31 by omega)]
  refine nm_e ?_
  rcases h with ⟨a, _, e⟩ | ⟨a, _, _, e⟩ | ⟨a, e⟩
  · exact tx_sel_t a (br_f (by decide) (F v2 e.symm))
  · exact tx_sel_f h9 (by omega) (br_t rfl (tx_num_t a (br_f (by decide) (F v2 e.symm))))
  · exact tx_sel_f h9 (by omega) (br_t rfl (tx_num_f h9 (by omega) (br_t rfl (F 0 e.symm))))
theorem ty_emit_b {nC nT nS nD nK : Nat} {dp rs st : Int32} {op kk L su own ow tr ex al tp fB fH fA fC fT fP : Nat → Int32} {b : Nat} {post : Int32 → SY → Prop} {v1 v2 : Int32} (hb : b < 16) (h : ¬ tf_in v1 9) (p : post 0 (nI nC, nI nT, nI nS, nI nD, nI (b + 1), nI nK, dp, rs, st, op, kk, L, su, own, ow, tr, ex, al, tp, fB, fH, fA, fC, fT, fP)) : wpY_emit post (nI nC, nI nT, nI nS, nI nD, nI (b + 1), nI nK, dp, rs, st, op, kk, L, su, own, ow, tr, ex, al, tp, fB, fH, fA, fC, fT, fP) v1 v2 := by
  refine br_f (nI_ne0 (by omega) (by omega)) ?_
  rcases tf_nin (n := 9) (by omega) h with a | ⟨a, c, _⟩
  · exact br_t a p
  · exact br_f a (br_f (tf_gt8 c).2 p)
theorem ty_emit_16 {nC nT nS nD nK : Nat} {dp rs st : Int32} {op kk L su own ow tr ex al tp fB fH fA fC fT fP : Nat → Int32} {b o : Nat} {post : Int32 → SY → Prop} {v2 : Int32} (hb : b < 16) (h9 : o < 9) (hl : L b = nI 16) (p : post 0 (nI nC, nI nT, nI nS, nI nD, nI (b + 1), nI nK, dp, rs, st, op, kk, L, su, own, ow, tr, ex, al, tp, fB, fH, fA, fC, fT, fP)) : wpY_emit post (nI nC, nI nT, nI nS, nI nD, nI (b + 1), nI nK, dp, rs, st, op, kk, L, su, own, ow, tr, ex, al, tp, fB, fH, fA, fC, fT, fP) (nI o) v2 := by
  refine br_f (nI_ne0 (by omega) (by omega)) (br_f (nI_pos (by omega)) (br_t (tf_le8 h9) (nm_r (nI_pred b) ⟨vp_in_nI hb (by omega), ?_⟩)))
  rw [nI_clamp (show b < 2 ^ 31 by omega), hl]
  exact br_f (by decide) p
theorem ty_emit_n {nC nT nS nD nK : Nat} {dp rs st : Int32} {op kk L su own ow tr ex al tp fB fH fA fC fT fP : Nat → Int32} {b o l : Nat} {post : Int32 → SY → Prop} {v2 : Int32} (hS : nS ≤ 16) (hb : b < 16) (h9 : o < 9) (hl : L b = nI l) (l16 : l < 16) (h : tf_nf nS o v2) (p : post 0 (nI nC, nI nT, nI nS, nI nD, nI (b + 1), nI nK, dp, rs, st, op, kk, L, su, own, ow, tr, ex, al, tp, fB, fH, fA, fC, fT, fP)) : wpY_emit post (nI nC, nI nT, nI nS, nI nD, nI (b + 1), nI nK, dp, rs, st, op, kk, L, su, own, ow, tr, ex, al, tp, fB, fH, fA, fC, fT, fP) (nI o) v2 := by
  refine br_f (nI_ne0 (by omega) (by omega)) (br_f (nI_pos (by omega)) (br_t (tf_le8 h9) (nm_r (nI_pred b) ⟨vp_in_nI hb (by omega), ?_⟩)))
  rw [nI_clamp (show b < 2 ^ 31 by omega), hl]
  refine br_t (nI_lt (b := 16) l16 (by omega)) ?_
  rcases h with ⟨a, c⟩ | ⟨a, c⟩
  · have w : wY_emit_53 post (nI o) v2 (nI b) (nI nC) (nI nT) (nI nS) (nI nD) (nI (b + 1)) (nI nK) dp rs st op kk L su own ow tr ex al tp fB fH fA fC fT fP := by
      unfold wY_emit_53
      exact ty_validSel_f hS c (br_t rfl p)
    rcases a with rfl | rfl
    · exact br_t rfl w
    · exact br_f (by decide) (br_t rfl w)
  · have w : wY_emit_78 post (nI o) v2 (nI b) (nI nC) (nI nT) (nI nS) (nI nD) (nI (b + 1)) (nI nK) dp rs st op kk L su own ow tr ex al tp fB fH fA fC fT fP := by
      rcases c with c | ⟨c, d⟩
      · exact br_t c p
      · exact br_f c (br_f (Int32.not_le.mpr d) p)
    rcases a with rfl | rfl | rfl
    · exact br_f (by decide) (br_f (by decide) (br_t rfl w))
    · exact br_f (by decide) (br_f (by decide) (br_f (by decide) (br_t rfl w)))
    · exact br_f (by decide) (br_f (by decide) (br_f (by decide) (br_f (by decide) (br_t rfl w))))
theorem ty_emit_t {nC nT nS nD nK : Nat} {dp rs st : Int32} {op kk L su own ow tr ex al tp fB fH fA fC fT fP : Nat → Int32} {b o l : Nat} {post : Int32 → SY → Prop} {v2 k : Int32} (hS : nS ≤ 16) (hb : b < 16) (h9 : o < 9) (hl : L b = nI l) (l16 : l < 16) (h : tf_ft nS o v2 k) (p : post 1 (nI nC, nI nT, nI nS, nI nD, nI (b + 1), nI nK, dp, rs, st, upd op (b * 16 + l) (nI o), upd kk (b * 16 + l) k, upd L b (nI (l + 1)), su, own, ow, tr, ex, al, tp, fB, fH, fA, fC, fT, fP)) : wpY_emit post (nI nC, nI nT, nI nS, nI nD, nI (b + 1), nI nK, dp, rs, st, op, kk, L, su, own, ow, tr, ex, al, tp, fB, fH, fA, fC, fT, fP) (nI o) v2 := by
  refine br_f (nI_ne0 (by omega) (by omega)) (br_f (nI_pos (by omega)) (br_t (tf_le8 h9) (nm_r (nI_pred b) ⟨vp_in_nI hb (by omega), ?_⟩)))
  rw [nI_clamp (show b < 2 ^ 31 by omega), hl]
  refine br_t (nI_lt (b := 16) l16 (by omega)) ?_
  have F : wY_emit_118 post (nI o) (nI b) k (nI nC) (nI nT) (nI nS) (nI nD) (nI (b + 1)) (nI nK) dp rs st op kk L su own ow tr ex al tp fB fH fA fC fT fP := by
    unfold wY_emit_118
    rw [nI_clamp (show b < 2 ^ 31 by omega), hl, tf_ix, nI_clamp (show b * 16 + l < 2 ^ 31 by omega), nI_1]
    exact ⟨vp_in_nI hb (by omega), vp_in_nI (by omega) (by omega), nm_e ⟨vp_in_nI hb (by omega), vp_in_nI (by omega) (by omega), nm_e ⟨vp_in_nI hb (by omega), vp_in_nI hb (by omega), nm_e p⟩⟩⟩
  rcases h with ⟨a, c, e⟩ | ⟨a, c, d, e⟩ | ⟨a, e⟩
  · rw [e] at F
    have w2 : wY_emit_63 post (nI o) v2 (nI b) (nI nC) (nI nT) (nI nS) (nI nD) (nI (b + 1)) (nI nK) dp rs st op kk L su own ow tr ex al tp fB fH fA fC fT fP := by
      rcases a with rfl | rfl
      · exact br_f (by decide) (br_f (by decide) (br_f (by decide) (br_f (by decide) (br_f (by decide) (br_f (by decide) (br_f (by decide) F))))))
      · exact br_f (by decide) (br_f (by decide) (br_f (by decide) (br_f (by decide) (br_f (by decide) (br_f (by decide) (br_f (by decide) F))))))
    have w : wY_emit_53 post (nI o) v2 (nI b) (nI nC) (nI nT) (nI nS) (nI nD) (nI (b + 1)) (nI nK) dp rs st op kk L su own ow tr ex al tp fB fH fA fC fT fP := by
      unfold wY_emit_53
      exact ty_validSel_t hS c (br_f (by decide) w2)
    rcases a with rfl | rfl
    · exact br_t rfl w
    · exact br_f (by decide) (br_t rfl w)
  · rw [e] at F
    have d2 : v2 ≤ 127 := Int32.not_lt.mp d
    rcases a with rfl | rfl | rfl
    · exact br_f (by decide) (br_f (by decide) (br_t rfl (br_f c (br_t d2 (br_f (by decide) (br_f (by decide) (br_f (by decide) (br_f (by decide) F))))))))
    · exact br_f (by decide) (br_f (by decide) (br_f (by decide) (br_t rfl (br_f c (br_t d2 (br_f (by decide) (br_f (by decide) (br_f (by decide) (br_f (by decide) F)))))))))
    · exact br_f (by decide) (br_f (by decide) (br_f (by decide) (br_f (by decide) (br_t rfl (br_f c (br_t d2 (br_f (by decide) (br_f (by decide) (br_f (by decide) (br_f (by decide) F))))))))))
  · rw [e] at F
    rcases a with rfl | rfl | rfl | rfl
    · exact br_f (by decide) (br_f (by decide) (br_f (by decide) (br_f (by decide) (br_f (by decide) (br_t rfl F)))))
    · exact br_f (by decide) (br_f (by decide) (br_f (by decide) (br_f (by decide) (br_f (by decide) (br_f (by decide) (br_t rfl F))))))
    · exact br_f (by decide) (br_f (by decide) (br_f (by decide) (br_f (by decide) (br_f (by decide) (br_f (by decide) (br_f (by decide) (br_t rfl F)))))))
    · exact br_f (by decide) (br_f (by decide) (br_f (by decide) (br_f (by decide) (br_f (by decide) (br_f (by decide) (br_f (by decide) (br_f (by decide) (br_t rfl F))))))))
end
section
/-! own methods, provided values, definitions: both sides -/
theorem tx_own_t {nC nT nS nD nB nK : Nat} {ls rr rc sp fc : Int32} {L op kk su own ow tr xe al fl fA fC fT fP fB fH : Nat → Int32} {post : Int32 → Prop} (hC : nC ≤ 8) (hT : nT ≤ 8) (hS : nS ≤ 16) {j s : Nat} (hj : j < nC ∨ (8 ≤ j ∧ j < 8 + nT)) (hs : s < nS) (p : post (own (j * 16 + s))) : wpX_ownMethod post (nI nC, nI nT, nI nS, nI nD, nI nB, nI nK, ls, rr, rc, sp, fc, L, op, kk, su, own, ow, tr, xe, al, fl, fA, fC, fT, fP, fB, fH) (nI j) (nI s) := by
  unfold wpX_ownMethod
  refine tx_isOwner_t hC hT ⟨j, hj, rfl⟩ (br_f (by decide) (tx_isSelector_t hS ⟨s, hs, rfl⟩ (br_f (by decide) ?_)))
  rw [tf_ix, nI_clamp (show j * 16 + s < 2 ^ 31 by omega)]
  exact ⟨vp_in_nI (by omega) (by omega), p⟩
theorem tx_own_f {nC nT nS nD nB nK : Nat} {ls rr rc sp fc : Int32} {L op kk su own ow tr xe al fl fA fC fT fP fB fH : Nat → Int32} {post : Int32 → Prop} (hC : nC ≤ 8) (hT : nT ≤ 8) (hS : nS ≤ 16) {v1 v2 : Int32} (h : ¬ (tf_ow v1 nC nT ∧ tf_in v2 nS)) (p : post (-3)) : wpX_ownMethod post (nI nC, nI nT, nI nS, nI nD, nI nB, nI nK, ls, rr, rc, sp, fc, L, op, kk, su, own, ow, tr, xe, al, fl, fA, fC, fT, fP, fB, fH) v1 v2 := by
  unfold wpX_ownMethod
  by_cases a : tf_ow v1 nC nT
  · exact tx_isOwner_t hC hT a (br_f (by decide) (tx_isSelector_f hS (fun b => h ⟨a, b⟩) (br_t rfl p)))
  · exact tx_isOwner_f hC hT a (br_t rfl p)
theorem ty_own_t {nC nT nS nD nB nK : Nat} {dp rs st : Int32} {op kk L su own ow tr ex al tp fB fH fA fC fT fP : Nat → Int32} {post : Int32 → Prop} (hC : nC ≤ 8) (hT : nT ≤ 8) (hS : nS ≤ 16) {j s : Nat} (hj : j < nC ∨ (8 ≤ j ∧ j < 8 + nT)) (hs : s < nS) (p : post (own (j * 16 + s))) : wpY_ownMethod post (nI nC, nI nT, nI nS, nI nD, nI nB, nI nK, dp, rs, st, op, kk, L, su, own, ow, tr, ex, al, tp, fB, fH, fA, fC, fT, fP) (nI j) (nI s) := by
  unfold wpY_ownMethod
  refine ty_validOwner_t hC hT ⟨j, hj, rfl⟩ (br_f (by decide) (ty_validSel_t hS ⟨s, hs, rfl⟩ (br_f (by decide) ?_)))
  rw [tf_ix, nI_clamp (show j * 16 + s < 2 ^ 31 by omega)]
  exact ⟨vp_in_nI (by omega) (by omega), p⟩
theorem ty_own_f {nC nT nS nD nB nK : Nat} {dp rs st : Int32} {op kk L su own ow tr ex al tp fB fH fA fC fT fP : Nat → Int32} {post : Int32 → Prop} (hC : nC ≤ 8) (hT : nT ≤ 8) (hS : nS ≤ 16) {v1 v2 : Int32} (h : ¬ (tf_ow v1 nC nT ∧ tf_in v2 nS)) (p : post (-3)) : wpY_ownMethod post (nI nC, nI nT, nI nS, nI nD, nI nB, nI nK, dp, rs, st, op, kk, L, su, own, ow, tr, ex, al, tp, fB, fH, fA, fC, fT, fP) v1 v2 := by
  unfold wpY_ownMethod
  by_cases a : tf_ow v1 nC nT
  · exact ty_validOwner_t hC hT a (br_f (by decide) (ty_validSel_f hS (fun b => h ⟨a, b⟩) (br_t rfl p)))
  · exact ty_validOwner_f hC hT a (br_t rfl p)
theorem tx_prov_t {nC nT nS nD nB nK : Nat} {ls rr rc sp fc : Int32} {L op kk su own ow tr xe al fl fA fC fT fP fB fH : Nat → Int32} {post : Int32 → Prop} (hC : nC ≤ 8) (hT : nT ≤ 8) (hS : nS ≤ 16) {j s : Nat} (hj : j < nC ∨ (8 ≤ j ∧ j < 8 + nT)) (hs : s < nS) (p : post (fl (j * 16 + s))) : wpX_provided post (nI nC, nI nT, nI nS, nI nD, nI nB, nI nK, ls, rr, rc, sp, fc, L, op, kk, su, own, ow, tr, xe, al, fl, fA, fC, fT, fP, fB, fH) (nI j) (nI s) := by
  unfold wpX_provided
  refine tx_isOwner_t hC hT ⟨j, hj, rfl⟩ (br_f (by decide) (tx_isSelector_t hS ⟨s, hs, rfl⟩ (br_f (by decide) ?_)))
  rw [tf_ix, nI_clamp (show j * 16 + s < 2 ^ 31 by omega)]
  exact ⟨vp_in_nI (by omega) (by omega), p⟩
theorem tx_prov_f {nC nT nS nD nB nK : Nat} {ls rr rc sp fc : Int32} {L op kk su own ow tr xe al fl fA fC fT fP fB fH : Nat → Int32} {post : Int32 → Prop} (hC : nC ≤ 8) (hT : nT ≤ 8) (hS : nS ≤ 16) {v1 v2 : Int32} (h : ¬ (tf_ow v1 nC nT ∧ tf_in v2 nS)) (p : post (-3)) : wpX_provided post (nI nC, nI nT, nI nS, nI nD, nI nB, nI nK, ls, rr, rc, sp, fc, L, op, kk, su, own, ow, tr, xe, al, fl, fA, fC, fT, fP, fB, fH) v1 v2 := by
  unfold wpX_provided
  by_cases a : tf_ow v1 nC nT
  · exact tx_isOwner_t hC hT a (br_f (by decide) (tx_isSelector_f hS (fun b => h ⟨a, b⟩) (br_t rfl p)))
  · exact tx_isOwner_f hC hT a (br_t rfl p)
theorem ty_prov_f {nC nT nS nD nB nK : Nat} {dp rs st : Int32} {op kk L su own ow tr ex al tp fB fH fA fC fT fP : Nat → Int32} {post : Int32 → SY → Prop} (hC : nC ≤ 8) (hT : nT ≤ 8) (hS : nS ≤ 16) {v1 v2 : Int32} (h : ¬ (tf_ow v1 nC nT ∧ tf_in v2 nS)) (p : post (-3) (nI nC, nI nT, nI nS, nI nD, nI nB, nI nK, dp, rs, st, op, kk, L, su, own, ow, tr, ex, al, tp, fB, fH, fA, fC, fT, fP)) : wpY_provided post (nI nC, nI nT, nI nS, nI nD, nI nB, nI nK, dp, rs, st, op, kk, L, su, own, ow, tr, ex, al, tp, fB, fH, fA, fC, fT, fP) v1 v2 := by
  unfold wpY_provided
  by_cases a : tf_ow v1 nC nT
  · exact ty_validOwner_t hC hT a (br_f (by decide) (ty_validSel_f hS (fun b => h ⟨a, b⟩) (br_t rfl p)))
  · exact ty_validOwner_f hC hT a (br_t rfl p)
theorem ty_prov_t {nC nT nS nD nB nK : Nat} {dp rs st : Int32} {op kk L su own ow tr ex al tp fB fH fA fC fT fP : Nat → Int32} {post : Int32 → SY → Prop} (hC : nC ≤ 8) (hT : nT ≤ 8) (hS : nS ≤ 16) (hK : nK ≤ 16) (hV : tf_CV nT nS nK ow tr al) {j s : Nat} (hj : j < nC ∨ (8 ≤ j ∧ j < 8 + nT)) (hs : s < nS) (p : ∀ g : Nat → Int32, post (tf_PR own ow tr ex al nK j s) (nI nC, nI nT, nI nS, nI nD, nI nB, nI nK, dp, rs, st, op, kk, L, su, own, ow, tr, ex, al, g, fB, fH, fA, fC, fT, fP)) : wpY_provided post (nI nC, nI nT, nI nS, nI nD, nI nB, nI nK, dp, rs, st, op, kk, L, su, own, ow, tr, ex, al, tp, fB, fH, fA, fC, fT, fP) (nI j) (nI s) := by
  unfold wpY_provided
  refine ty_validOwner_t hC hT ⟨j, hj, rfl⟩ (br_f (by decide) (ty_validSel_t hS ⟨s, hs, rfl⟩ (br_f (by decide) (ty_ct hS hT hK hV (fun g hg => ?_)))))
  refine pk_lt j 8 (fun h8 => ?_) (fun h8 => ?_)
  · refine ty_combine hS hT hK hV (by omega) hs ?_
    have hv : tf_pf own ow tr ex al g nK j s = tf_PR own ow tr ex al nK j s := tf_pf_congr hT hS hV (by omega) hs (fun u r hu _ hr => hg u r hu hr)
    rw [hv]
    exact p g
  · obtain ⟨t, rfl⟩ : ∃ t, j = 8 + t := ⟨j - 8, by omega⟩
    have e : nI (8 + t) - 8 = nI t := by
      show nI (8 + t) - nI 8 = nI t
      rw [pk_sub (by omega), Nat.add_sub_cancel_left]
    have q := p g
    rw [tf_PR_tr hT hS hV (by omega) hs, ← hg t s (by omega) hs] at q
    rw [e, tf_ix, nI_clamp (show t * 16 + s < 2 ^ 31 by omega)]
    exact ⟨vp_in_nI (by omega) (by omega), q⟩
theorem tx_def_t {nC nT nS nD nB nK : Nat} {ls rr rc sp fc : Int32} {L op kk su own ow tr xe al fl fA fC fT fP fB fH : Nat → Int32} {ex : Nat → Int32} {post : Int32 → SX → Prop} (hC : nC ≤ 8) (hT : nT ≤ 8) (hS : nS ≤ 16) (hK : nK ≤ 16) (hB : nB ≤ 16) (hE : tf_EX nS xe ex) (hV : tf_CV nT nS nK ow tr al) {j s : Nat} {x : Int32} (hj : j < nC ∨ (8 ≤ j ∧ j < 8 + nT)) (hs : s < nS) (hx : x = -1 ∨ tf_in x nB) (p : ∀ g : Nat → Int32, tf_FL nC nT nS nK (upd own (j * 16 + s) x) ow tr ex al g → post 1 (nI nC, nI nT, nI nS, nI nD, nI nB, nI nK, ls, rr, rc, sp, fc, L, op, kk, su, upd own (j * 16 + s) x, ow, tr, xe, al, g, fA, fC, fT, fP, fB, fH)) : wpX_define post (nI nC, nI nT, nI nS, nI nD, nI nB, nI nK, ls, rr, rc, sp, fc, L, op, kk, su, own, ow, tr, xe, al, fl, fA, fC, fT, fP, fB, fH) (nI j) (nI s) x := by
  have w : wX_define_33 post (nI j) (nI s) x (nI nC) (nI nT) (nI nS) (nI nD) (nI nB) (nI nK) ls rr rc sp fc L op kk su own ow tr xe al fl fA fC fT fP fB fH := by
    unfold wX_define_33
    rw [tf_ix, nI_clamp (show j * 16 + s < 2 ^ 31 by omega)]
    exact ⟨vp_in_nI (by omega) (by omega), nm_e (tx_flattenAll hC hS hT hK hE hV p)⟩
  unfold wpX_define
  refine tx_isOwner_t hC hT ⟨j, hj, rfl⟩ (br_f (by decide) (tx_isSelector_t hS ⟨s, hs, rfl⟩ (br_f (by decide) ?_)))
  by_cases c : x = -1
  · exact br_t c w
  · exact br_f c (tx_isBody_t hB (hx.resolve_left c) (br_f (by decide) w))
theorem tx_def_f {nC nT nS nD nB nK : Nat} {ls rr rc sp fc : Int32} {L op kk su own ow tr xe al fl fA fC fT fP fB fH : Nat → Int32} {post : Int32 → SX → Prop} (hC : nC ≤ 8) (hT : nT ≤ 8) (hS : nS ≤ 16) (hB : nB ≤ 16) {v1 v2 x : Int32} (h : ¬ (tf_ow v1 nC nT ∧ tf_in v2 nS ∧ (x = -1 ∨ tf_in x nB))) (p : post 0 (nI nC, nI nT, nI nS, nI nD, nI nB, nI nK, ls, rr, rc, sp, fc, L, op, kk, su, own, ow, tr, xe, al, fl, fA, fC, fT, fP, fB, fH)) : wpX_define post (nI nC, nI nT, nI nS, nI nD, nI nB, nI nK, ls, rr, rc, sp, fc, L, op, kk, su, own, ow, tr, xe, al, fl, fA, fC, fT, fP, fB, fH) v1 v2 x := by
  unfold wpX_define
  by_cases a : tf_ow v1 nC nT
  · refine tx_isOwner_t hC hT a (br_f (by decide) ?_)
    by_cases b : tf_in v2 nS
    · exact tx_isSelector_t hS b (br_f (by decide) (br_f (fun z => h ⟨a, b, Or.inl z⟩) (tx_isBody_f hB (fun z => h ⟨a, b, Or.inr z⟩) (br_t rfl p))))
    · exact tx_isSelector_f hS b (br_t rfl p)
  · exact tx_isOwner_f hC hT a (br_t rfl p)
theorem ty_def_t {nC nT nS nD nB nK : Nat} {dp rs st : Int32} {op kk L su own ow tr ex al tp fB fH fA fC fT fP : Nat → Int32} {post : Int32 → SY → Prop} (hC : nC ≤ 8) (hT : nT ≤ 8) (hS : nS ≤ 16) (hB : nB ≤ 16) {j s : Nat} {x : Int32} (hj : j < nC ∨ (8 ≤ j ∧ j < 8 + nT)) (hs : s < nS) (hx : x = -1 ∨ tf_in x nB) (p : post 1 (nI nC, nI nT, nI nS, nI nD, nI nB, nI nK, dp, rs, st, op, kk, L, su, upd own (j * 16 + s) x, ow, tr, ex, al, tp, fB, fH, fA, fC, fT, fP)) : wpY_define post (nI nC, nI nT, nI nS, nI nD, nI nB, nI nK, dp, rs, st, op, kk, L, su, own, ow, tr, ex, al, tp, fB, fH, fA, fC, fT, fP) (nI j) (nI s) x := by
  have w : wY_define_33 post (nI j) (nI s) x (nI nC) (nI nT) (nI nS) (nI nD) (nI nB) (nI nK) dp rs st op kk L su own ow tr ex al tp fB fH fA fC fT fP := by
    unfold wY_define_33
    rw [tf_ix, nI_clamp (show j * 16 + s < 2 ^ 31 by omega)]
    exact ⟨vp_in_nI (by omega) (by omega), nm_e p⟩
  unfold wpY_define
  refine ty_validOwner_t hC hT ⟨j, hj, rfl⟩ (br_f (by decide) (ty_validSel_t hS ⟨s, hs, rfl⟩ (br_f (by decide) ?_)))
  by_cases c : x = -1
  · exact br_t c w
  · exact br_f c (ty_validBody_t hB (hx.resolve_left c) (br_f (by decide) w))
theorem ty_def_f {nC nT nS nD nB nK : Nat} {dp rs st : Int32} {op kk L su own ow tr ex al tp fB fH fA fC fT fP : Nat → Int32} {post : Int32 → SY → Prop} (hC : nC ≤ 8) (hT : nT ≤ 8) (hS : nS ≤ 16) (hB : nB ≤ 16) {v1 v2 x : Int32} (h : ¬ (tf_ow v1 nC nT ∧ tf_in v2 nS ∧ (x = -1 ∨ tf_in x nB))) (p : post 0 (nI nC, nI nT, nI nS, nI nD, nI nB, nI nK, dp, rs, st, op, kk, L, su, own, ow, tr, ex, al, tp, fB, fH, fA, fC, fT, fP)) : wpY_define post (nI nC, nI nT, nI nS, nI nD, nI nB, nI nK, dp, rs, st, op, kk, L, su, own, ow, tr, ex, al, tp, fB, fH, fA, fC, fT, fP) v1 v2 x := by
  unfold wpY_define
  by_cases a : tf_ow v1 nC nT
  · refine ty_validOwner_t hC hT a (br_f (by decide) ?_)
    by_cases b : tf_in v2 nS
    · exact ty_validSel_t hS b (br_f (by decide) (br_f (fun z => h ⟨a, b, Or.inl z⟩) (ty_validBody_f hB (fun z => h ⟨a, b, Or.inr z⟩) (br_t rfl p))))
    · exact ty_validSel_f hS b (br_t rfl p)
  · exact ty_validOwner_f hC hT a (br_t rfl p)
/-! use -/
theorem tf_use_t {A W : Prop} {j u nT : Nat} (hT : nT ≤ 8) (hj : j < 16) (hu : u < nT) (h8 : 8 ≤ j → u + 8 < j) (w : W) : (nI u < 0 → A) ∧ (¬ nI u < 0 → ((nI u < nI nT → ((nI j < 8 → W) ∧ (¬ nI j < 8 → ((nI u < nI j - 8 → W) ∧ (¬ nI u < nI j - 8 → A))))) ∧ (¬ nI u < nI nT → A))) := by
  refine br_f (nI_pos (by omega)) (br_t (nI_lt hu (by omega)) (pk_lt j 8 (fun _ => w) (fun z => ?_)))
  have e : nI j - 8 = nI (j - 8) := pk_sub (b := 8) z
  rw [e]
  exact br_t (nI_lt (by omega) (by omega)) w
theorem tf_use_h {A W : Prop} {j u nT : Nat} (hT : nT ≤ 8) (hj : j < 16) (hu : u < nT) (h8 : 8 ≤ j ∧ j ≤ u + 8) (a : A) : (nI u < 0 → A) ∧ (¬ nI u < 0 → ((nI u < nI nT → ((nI j < 8 → W) ∧ (¬ nI j < 8 → ((nI u < nI j - 8 → W) ∧ (¬ nI u < nI j - 8 → A))))) ∧ (¬ nI u < nI nT → A))) := by
  refine br_f (nI_pos (by omega)) (br_t (nI_lt hu (by omega)) (br_f (nI_nlt (b := 8) h8.1 (by omega)) ?_))
  have e : nI j - 8 = nI (j - 8) := pk_sub (b := 8) h8.1
  rw [e]
  exact br_f (nI_nlt (by omega) (by omega)) a
theorem tx_use_t {nC nT nS nD nB nK : Nat} {ls rr rc sp fc : Int32} {L op kk su own ow tr xe al fl fA fC fT fP fB fH : Nat → Int32} {ex : Nat → Int32} {post : Int32 → SX → Prop} (hC : nC ≤ 8) (hT : nT ≤ 8) (hS : nS ≤ 16) (hK : nK < 16) (hE : tf_EX nS xe ex) {j u : Nat} (hj : j < nC ∨ (8 ≤ j ∧ j < 8 + nT)) (hu : u < nT) (h8 : 8 ≤ j → u + 8 < j) (hV : tf_CV nT nS (nK + 1) (upd ow nK (nI j)) (upd tr nK (nI u)) al) (p : ∀ g : Nat → Int32, tf_FL nC nT nS (nK + 1) own (upd ow nK (nI j)) (upd tr nK (nI u)) ex al g → post (nI nK) (nI nC, nI nT, nI nS, nI nD, nI nB, nI (nK + 1), ls, rr, rc, sp, fc, L, op, kk, su, own, upd ow nK (nI j), upd tr nK (nI u), xe, al, g, fA, fC, fT, fP, fB, fH)) : wpX_use post (nI nC, nI nT, nI nS, nI nD, nI nB, nI nK, ls, rr, rc, sp, fc, L, op, kk, su, own, ow, tr, xe, al, fl, fA, fC, fT, fP, fB, fH) (nI j) (nI u) := by
  have w : wX_use_40 post (nI j) (nI u) (nI nC) (nI nT) (nI nS) (nI nD) (nI nB) (nI nK) ls rr rc sp fc L op kk su own ow tr xe al fl fA fC fT fP fB fH := by
    unfold wX_use_40
    rw [nI_clamp (show nK < 2 ^ 31 by omega)]
    exact pk_eq nK 16 (fun z => absurd z (by omega)) (fun _ => ⟨vp_in_nI hK (by omega), nm_e ⟨vp_in_nI hK (by omega), nm_e (nm_r (nI_1 nK) (tx_flattenAll hC hS hT (by omega) hE hV p))⟩⟩)
  unfold wpX_use
  exact tx_isOwner_t hC hT ⟨j, hj, rfl⟩ (br_f (by decide) (tf_use_t hT (by omega) hu h8 w))
theorem tx_use_f {nC nT nS nD nB nK : Nat} {ls rr rc sp fc : Int32} {L op kk su own ow tr xe al fl fA fC fT fP fB fH : Nat → Int32} {post : Int32 → SX → Prop} (hC : nC ≤ 8) (hT : nT ≤ 8) {v1 v2 : Int32} (h : ¬ tf_ow v1 nC nT ∨ ¬ tf_in v2 nT) (p : post (-3) (nI nC, nI nT, nI nS, nI nD, nI nB, nI nK, ls, rr, rc, sp, fc, L, op, kk, su, own, ow, tr, xe, al, fl, fA, fC, fT, fP, fB, fH)) : wpX_use post (nI nC, nI nT, nI nS, nI nD, nI nB, nI nK, ls, rr, rc, sp, fc, L, op, kk, su, own, ow, tr, xe, al, fl, fA, fC, fT, fP, fB, fH) v1 v2 := by
  unfold wpX_use
  by_cases a : tf_ow v1 nC nT
  · exact tx_isOwner_t hC hT a (br_f (by decide) (tf_r2f (by omega) (h.resolve_left (fun z => z a)) p))
  · exact tx_isOwner_f hC hT a (br_t rfl p)
theorem tx_use_g {nC nT nS nD nB nK : Nat} {ls rr rc sp fc : Int32} {L op kk su own ow tr xe al fl fA fC fT fP fB fH : Nat → Int32} {post : Int32 → SX → Prop} (hC : nC ≤ 8) (hT : nT ≤ 8) {j u : Nat} (hj : j < nC ∨ (8 ≤ j ∧ j < 8 + nT)) (hu : u < nT) (h8 : (8 ≤ j ∧ j ≤ u + 8) ∨ nK = 16) (p : post (-3) (nI nC, nI nT, nI nS, nI nD, nI nB, nI nK, ls, rr, rc, sp, fc, L, op, kk, su, own, ow, tr, xe, al, fl, fA, fC, fT, fP, fB, fH)) : wpX_use post (nI nC, nI nT, nI nS, nI nD, nI nB, nI nK, ls, rr, rc, sp, fc, L, op, kk, su, own, ow, tr, xe, al, fl, fA, fC, fT, fP, fB, fH) (nI j) (nI u) := by
  unfold wpX_use
  refine tx_isOwner_t hC hT ⟨j, hj, rfl⟩ (br_f (by decide) ?_)
  by_cases c : 8 ≤ j ∧ j ≤ u + 8
  · exact tf_use_h hT (by omega) hu c p
  · have e := h8.resolve_left c
    exact tf_use_t hT (by omega) hu (by omega) (br_t (by rw [e]; rfl) p)
theorem ty_use_f {nC nT nS nD nB nK : Nat} {dp rs st : Int32} {op kk L su own ow tr ex al tp fB fH fA fC fT fP : Nat → Int32} {post : Int32 → SY → Prop} (hC : nC ≤ 8) (hT : nT ≤ 8) {v1 v2 : Int32} (h : ¬ tf_ow v1 nC nT ∨ ¬ tf_in v2 nT) (p : post (-3) (nI nC, nI nT, nI nS, nI nD, nI nB, nI nK, dp, rs, st, op, kk, L, su, own, ow, tr, ex, al, tp, fB, fH, fA, fC, fT, fP)) : wpY_use post (nI nC, nI nT, nI nS, nI nD, nI nB, nI nK, dp, rs, st, op, kk, L, su, own, ow, tr, ex, al, tp, fB, fH, fA, fC, fT, fP) v1 v2 := by
  unfold wpY_use
  by_cases a : tf_ow v1 nC nT
  · exact ty_validOwner_t hC hT a (br_f (by decide) (tf_r2f (by omega) (h.resolve_left (fun z => z a)) p))
  · exact ty_validOwner_f hC hT a (br_t rfl p)
theorem ty_use_g {nC nT nS nD nB nK : Nat} {dp rs st : Int32} {op kk L su own ow tr ex al tp fB fH fA fC fT fP : Nat → Int32} {post : Int32 → SY → Prop} (hC : nC ≤ 8) (hT : nT ≤ 8) {j u : Nat} (hj : j < nC ∨ (8 ≤ j ∧ j < 8 + nT)) (hu : u < nT) (h8 : (8 ≤ j ∧ j ≤ u + 8) ∨ nK = 16) (p : post (-3) (nI nC, nI nT, nI nS, nI nD, nI nB, nI nK, dp, rs, st, op, kk, L, su, own, ow, tr, ex, al, tp, fB, fH, fA, fC, fT, fP)) : wpY_use post (nI nC, nI nT, nI nS, nI nD, nI nB, nI nK, dp, rs, st, op, kk, L, su, own, ow, tr, ex, al, tp, fB, fH, fA, fC, fT, fP) (nI j) (nI u) := by
  unfold wpY_use
  refine ty_validOwner_t hC hT ⟨j, hj, rfl⟩ (br_f (by decide) ?_)
  by_cases c : 8 ≤ j ∧ j ≤ u + 8
  · exact tf_use_h hT (by omega) hu c p
  · have e := h8.resolve_left c
    exact tf_use_t hT (by omega) hu (by omega) (br_f (by rw [e]; decide) p)
theorem ty_use_t {nC nT nS nD nB nK : Nat} {dp rs st : Int32} {op kk L su own ow tr ex al tp fB fH fA fC fT fP : Nat → Int32} {post : Int32 → SY → Prop} (hC : nC ≤ 8) (hT : nT ≤ 8) (hK : nK < 16) (h0 : ∀ s, s < 16 → ex (nK * 16 + s) = 0 ∧ al (nK * 16 + s) = -1) {j u : Nat} (hj : j < nC ∨ (8 ≤ j ∧ j < 8 + nT)) (hu : u < nT) (h8 : 8 ≤ j → u + 8 < j) (p : post (nI nK) (nI nC, nI nT, nI nS, nI nD, nI nB, nI (nK + 1), dp, rs, st, op, kk, L, su, own, upd ow nK (nI j), upd tr nK (nI u), ex, al, tp, fB, fH, fA, fC, fT, fP)) : wpY_use post (nI nC, nI nT, nI nS, nI nD, nI nB, nI nK, dp, rs, st, op, kk, L, su, own, ow, tr, ex, al, tp, fB, fH, fA, fC, fT, fP) (nI j) (nI u) := by
  have lp : ∀ d i, i + d = 16 → wY_use_77 post (nI nC) (nI nT) (nI nS) (nI nD) (nI nB) (nI nK) dp rs st (d + 1) (nI i) op kk L su own (upd ow nK (nI j)) (upd tr nK (nI u)) ex al tp fB fH fA fC fT fP := by
    intro d
    induction d with
    | zero =>
      intro i hi
      refine br_t (nI_le (a := 16) (by omega) (by omega)) (nm_r (nI_1 nK) ?_)
      rw [nI_pred]
      exact p
    | succ d ih =>
      intro i hi
      have e : (nI nK * 16 + nI i).toNatClampNeg = nK * 16 + i := by rw [tf_ix, nI_clamp (by omega)]
      have v : vp_in (nI nK * 16 + nI i) 256 := by
        rw [tf_ix]
        exact vp_in_nI (by omega) (by omega)
      exact br_f (nI_ge (b := 16) (by omega) (by omega)) ⟨v, nm_r (by rw [e]; exact tf_uid (h0 i (by omega)).1) ⟨v, nm_r (by rw [e]; exact tf_uid (h0 i (by omega)).2) (nm_r (nI_1 i) (ih (i + 1) (by omega)))⟩⟩
  have w : wY_use_43 post (nI j) (nI u) (nI nC) (nI nT) (nI nS) (nI nD) (nI nB) (nI nK) dp rs st op kk L su own ow tr ex al tp fB fH fA fC fT fP := by
    unfold wY_use_43
    rw [nI_clamp (show nK < 2 ^ 31 by omega)]
    exact br_t (nI_lt (b := 16) hK (by omega)) ⟨vp_in_nI hK (by omega), nm_e ⟨vp_in_nI hK (by omega), nm_e ⟨17, lp 16 0 rfl⟩⟩⟩
  unfold wpY_use
  exact ty_validOwner_t hC hT ⟨j, hj, rfl⟩ (br_f (by decide) (tf_use_t hT (by omega) hu h8 w))
end
section
/-! exclude, the second name of a selector, what a component is, lookup: both sides -/
theorem tx_excl_t {nC nT nS nD nB nK : Nat} {ls rr rc sp fc : Int32} {L op kk su own ow tr xe al fl fA fC fT fP fB fH : Nat → Int32} {ex : Nat → Int32} {post : Int32 → SX → Prop} (hC : nC ≤ 8) (hT : nT ≤ 8) (hS : nS ≤ 16) (hK : nK ≤ 16) (hE : tf_EX nS xe ex) (hV : tf_CV nT nS nK ow tr al) {k s : Nat} (hk : k < nK) (hs : s < nS) (p : ∀ g : Nat → Int32, tf_FL nC nT nS nK own ow tr (upd ex (k * 16 + s) 1) al g → post 1 (nI nC, nI nT, nI nS, nI nD, nI nB, nI nK, ls, rr, rc, sp, fc, L, op, kk, su, own, ow, tr, upd xe k (xe k ||| ((1 : Int32) <<< (nI s &&& 31))), al, g, fA, fC, fT, fP, fB, fH)) : wpX_exclude post (nI nC, nI nT, nI nS, nI nD, nI nB, nI nK, ls, rr, rc, sp, fc, L, op, kk, su, own, ow, tr, xe, al, fl, fA, fC, fT, fP, fB, fH) (nI k) (nI s) := by
  unfold wpX_exclude
  refine tx_isComponent_t hK ⟨k, hk, rfl⟩ (br_f (by decide) (tx_isSelector_t hS ⟨s, hs, rfl⟩ (br_f (by decide) ?_)))
  rw [nI_clamp (show k < 2 ^ 31 by omega)]
  exact ⟨vp_in_nI (by omega) (by omega), vp_in_nI (by omega) (by omega), nm_e (tx_flattenAll hC hS hT hK (tf_EX_upd hS hE (by omega) hs) hV p)⟩
theorem tx_excl_f {nC nT nS nD nB nK : Nat} {ls rr rc sp fc : Int32} {L op kk su own ow tr xe al fl fA fC fT fP fB fH : Nat → Int32} {post : Int32 → SX → Prop} (hS : nS ≤ 16) (hK : nK ≤ 16) {v1 v2 : Int32} (h : ¬ (tf_in v1 nK ∧ tf_in v2 nS)) (p : post 0 (nI nC, nI nT, nI nS, nI nD, nI nB, nI nK, ls, rr, rc, sp, fc, L, op, kk, su, own, ow, tr, xe, al, fl, fA, fC, fT, fP, fB, fH)) : wpX_exclude post (nI nC, nI nT, nI nS, nI nD, nI nB, nI nK, ls, rr, rc, sp, fc, L, op, kk, su, own, ow, tr, xe, al, fl, fA, fC, fT, fP, fB, fH) v1 v2 := by
  unfold wpX_exclude
  by_cases a : tf_in v1 nK
  · exact tx_isComponent_t hK a (br_f (by decide) (tx_isSelector_f hS (fun b => h ⟨a, b⟩) (br_t rfl p)))
  · exact tx_isComponent_f hK a (br_t rfl p)
theorem ty_excl_t {nC nT nS nD nB nK : Nat} {dp rs st : Int32} {op kk L su own ow tr ex al tp fB fH fA fC fT fP : Nat → Int32} {post : Int32 → SY → Prop} (hS : nS ≤ 16) (hK : nK ≤ 16) {k s : Nat} (hk : k < nK) (hs : s < nS) (p : post 1 (nI nC, nI nT, nI nS, nI nD, nI nB, nI nK, dp, rs, st, op, kk, L, su, own, ow, tr, upd ex (k * 16 + s) 1, al, tp, fB, fH, fA, fC, fT, fP)) : wpY_exclude post (nI nC, nI nT, nI nS, nI nD, nI nB, nI nK, dp, rs, st, op, kk, L, su, own, ow, tr, ex, al, tp, fB, fH, fA, fC, fT, fP) (nI k) (nI s) := by
  refine tf_r1t (by omega) ⟨k, hk, rfl⟩ (ty_validSel_t hS ⟨s, hs, rfl⟩ (br_f (by decide) ?_))
  rw [tf_ix, nI_clamp (show k * 16 + s < 2 ^ 31 by omega)]
  exact ⟨vp_in_nI (by omega) (by omega), nm_r rfl p⟩
theorem ty_excl_f {nC nT nS nD nB nK : Nat} {dp rs st : Int32} {op kk L su own ow tr ex al tp fB fH fA fC fT fP : Nat → Int32} {post : Int32 → SY → Prop} (hS : nS ≤ 16) (hK : nK ≤ 16) {v1 v2 : Int32} (h : ¬ (tf_in v1 nK ∧ tf_in v2 nS)) (p : post 0 (nI nC, nI nT, nI nS, nI nD, nI nB, nI nK, dp, rs, st, op, kk, L, su, own, ow, tr, ex, al, tp, fB, fH, fA, fC, fT, fP)) : wpY_exclude post (nI nC, nI nT, nI nS, nI nD, nI nB, nI nK, dp, rs, st, op, kk, L, su, own, ow, tr, ex, al, tp, fB, fH, fA, fC, fT, fP) v1 v2 := by
  by_cases a : tf_in v1 nK
  · exact tf_r1t (by omega) a (ty_validSel_f hS (fun b => h ⟨a, b⟩) (br_t rfl p))
  · exact tf_r1f (by omega) a p
theorem tx_al_n {nC nT nS nD nB nK : Nat} {ls rr rc sp fc : Int32} {L op kk su own ow tr xe al fl fA fC fT fP fB fH : Nat → Int32} {ex : Nat → Int32} {post : Int32 → SX → Prop} (hC : nC ≤ 8) (hT : nT ≤ 8) (hS : nS ≤ 16) (hK : nK ≤ 16) (hE : tf_EX nS xe ex) {k n r : Nat} (hk : k < nK) (hn : n < nS) (hr : r < nS) (ha : al (k * 16 + n) = -1) (hV : tf_CV nT nS nK ow tr (upd al (k * 16 + n) (nI r))) (p : ∀ g : Nat → Int32, tf_FL nC nT nS nK own ow tr ex (upd al (k * 16 + n) (nI r)) g → post 1 (nI nC, nI nT, nI nS, nI nD, nI nB, nI nK, ls, rr, rc, sp, fc, L, op, kk, su, own, ow, tr, xe, upd al (k * 16 + n) (nI r), g, fA, fC, fT, fP, fB, fH)) : wpX_alias post (nI nC, nI nT, nI nS, nI nD, nI nB, nI nK, ls, rr, rc, sp, fc, L, op, kk, su, own, ow, tr, xe, al, fl, fA, fC, fT, fP, fB, fH) (nI k) (nI n) (nI r) := by
  unfold wpX_alias
  refine tx_isComponent_t hK ⟨k, hk, rfl⟩ (br_f (by decide) (tx_isSelector_t hS ⟨n, hn, rfl⟩ (br_f (by decide) (tx_isSelector_t hS ⟨r, hr, rfl⟩ (br_f (by decide) (nm_r (tf_ix k n) ⟨vp_in_nI (by omega) (by omega), ?_⟩))))))
  rw [nI_clamp (show k * 16 + n < 2 ^ 31 by omega)]
  exact br_t ha ⟨vp_in_nI (by omega) (by omega), nm_e (tx_flattenAll hC hS hT hK hE hV p)⟩
theorem tx_al_o {nC nT nS nD nB nK : Nat} {ls rr rc sp fc : Int32} {L op kk su own ow tr xe al fl fA fC fT fP fB fH : Nat → Int32} {post : Int32 → SX → Prop} (hS : nS ≤ 16) (hK : nK ≤ 16) {k n r q : Nat} (hk : k < nK) (hn : n < nS) (hr : r < nS) (hq : q < nS) (ha : al (k * 16 + n) = nI q) (p : post (if q = r then 1 else 0) (nI nC, nI nT, nI nS, nI nD, nI nB, nI nK, ls, rr, rc, sp, fc, L, op, kk, su, own, ow, tr, xe, al, fl, fA, fC, fT, fP, fB, fH)) : wpX_alias post (nI nC, nI nT, nI nS, nI nD, nI nB, nI nK, ls, rr, rc, sp, fc, L, op, kk, su, own, ow, tr, xe, al, fl, fA, fC, fT, fP, fB, fH) (nI k) (nI n) (nI r) := by
  unfold wpX_alias
  refine tx_isComponent_t hK ⟨k, hk, rfl⟩ (br_f (by decide) (tx_isSelector_t hS ⟨n, hn, rfl⟩ (br_f (by decide) (tx_isSelector_t hS ⟨r, hr, rfl⟩ (br_f (by decide) (nm_r (tf_ix k n) ⟨vp_in_nI (by omega) (by omega), ?_⟩))))))
  rw [nI_clamp (show k * 16 + n < 2 ^ 31 by omega), ha]
  refine br_f (tf_m1 (by omega)) ⟨vp_in_nI (by omega) (by omega), pk_eq q r (fun e => ?_) (fun e => ?_)⟩
  · rw [if_pos e] at p
    exact p
  · rw [if_neg e] at p
    exact p
theorem tx_al_f {nC nT nS nD nB nK : Nat} {ls rr rc sp fc : Int32} {L op kk su own ow tr xe al fl fA fC fT fP fB fH : Nat → Int32} {post : Int32 → SX → Prop} (hS : nS ≤ 16) (hK : nK ≤ 16) {v1 v2 v3 : Int32} (h : ¬ (tf_in v1 nK ∧ tf_in v2 nS ∧ tf_in v3 nS)) (p : post 0 (nI nC, nI nT, nI nS, nI nD, nI nB, nI nK, ls, rr, rc, sp, fc, L, op, kk, su, own, ow, tr, xe, al, fl, fA, fC, fT, fP, fB, fH)) : wpX_alias post (nI nC, nI nT, nI nS, nI nD, nI nB, nI nK, ls, rr, rc, sp, fc, L, op, kk, su, own, ow, tr, xe, al, fl, fA, fC, fT, fP, fB, fH) v1 v2 v3 := by
  unfold wpX_alias
  by_cases a : tf_in v1 nK
  · refine tx_isComponent_t hK a (br_f (by decide) ?_)
    by_cases b : tf_in v2 nS
    · exact tx_isSelector_t hS b (br_f (by decide) (tx_isSelector_f hS (fun c => h ⟨a, b, c⟩) (br_t rfl p)))
    · exact tx_isSelector_f hS b (br_t rfl p)
  · exact tx_isComponent_f hK a (br_t rfl p)
theorem ty_al_t {nC nT nS nD nB nK : Nat} {dp rs st : Int32} {op kk L su own ow tr ex al tp fB fH fA fC fT fP : Nat → Int32} {post : Int32 → SY → Prop} (hS : nS ≤ 16) (hK : nK ≤ 16) {k n r : Nat} (hk : k < nK) (hn : n < nS) (hr : r < nS) (ha : al (k * 16 + n) = -1 ∨ al (k * 16 + n) = nI r) (p : post 1 (nI nC, nI nT, nI nS, nI nD, nI nB, nI nK, dp, rs, st, op, kk, L, su, own, ow, tr, ex, upd al (k * 16 + n) (nI r), tp, fB, fH, fA, fC, fT, fP)) : wpY_alias post (nI nC, nI nT, nI nS, nI nD, nI nB, nI nK, dp, rs, st, op, kk, L, su, own, ow, tr, ex, al, tp, fB, fH, fA, fC, fT, fP) (nI k) (nI n) (nI r) := by
  have w : wY_alias_59 post (nI k) (nI n) (nI r) (nI nC) (nI nT) (nI nS) (nI nD) (nI nB) (nI nK) dp rs st op kk L su own ow tr ex al tp fB fH fA fC fT fP := by
    unfold wY_alias_59
    rw [tf_ix, nI_clamp (show k * 16 + n < 2 ^ 31 by omega)]
    exact ⟨vp_in_nI (by omega) (by omega), nm_e p⟩
  refine tf_r2t (by omega) ⟨k, hk, rfl⟩ (ty_validSel_t hS ⟨n, hn, rfl⟩ (br_f (by decide) (ty_validSel_t hS ⟨r, hr, rfl⟩ (br_f (by decide) ?_))))
  have e : nI k * 16 + nI n = nI (k * 16 + n) := tf_ix k n
  have e2 : (nI (k * 16 + n)).toNatClampNeg = k * 16 + n := nI_clamp (by omega)
  refine ⟨by rw [e]; exact vp_in_nI (by omega) (by omega), ?_⟩
  rcases ha with a | a
  · exact nm_r (by rw [e, e2, a]) (br_t rfl w)
  · exact nm_r (by rw [e, e2, a]) (br_f (tf_m1 (by omega)) (br_t rfl w))
theorem ty_al_o {nC nT nS nD nB nK : Nat} {dp rs st : Int32} {op kk L su own ow tr ex al tp fB fH fA fC fT fP : Nat → Int32} {post : Int32 → SY → Prop} (hS : nS ≤ 16) (hK : nK ≤ 16) {k n r q : Nat} (hk : k < nK) (hn : n < nS) (hr : r < nS) (hq : q < nS) (hd : q ≠ r) (ha : al (k * 16 + n) = nI q) (p : post 0 (nI nC, nI nT, nI nS, nI nD, nI nB, nI nK, dp, rs, st, op, kk, L, su, own, ow, tr, ex, al, tp, fB, fH, fA, fC, fT, fP)) : wpY_alias post (nI nC, nI nT, nI nS, nI nD, nI nB, nI nK, dp, rs, st, op, kk, L, su, own, ow, tr, ex, al, tp, fB, fH, fA, fC, fT, fP) (nI k) (nI n) (nI r) := by
  refine tf_r2t (by omega) ⟨k, hk, rfl⟩ (ty_validSel_t hS ⟨n, hn, rfl⟩ (br_f (by decide) (ty_validSel_t hS ⟨r, hr, rfl⟩ (br_f (by decide) ?_))))
  have e : nI k * 16 + nI n = nI (k * 16 + n) := tf_ix k n
  have e2 : (nI (k * 16 + n)).toNatClampNeg = k * 16 + n := nI_clamp (by omega)
  refine ⟨by rw [e]; exact vp_in_nI (by omega) (by omega), nm_r (by rw [e, e2, ha]) (br_f (tf_m1 (by omega)) (br_f ?_ p))⟩
  rw [nI_eq (by omega) (by omega)]
  exact hd
theorem ty_al_f {nC nT nS nD nB nK : Nat} {dp rs st : Int32} {op kk L su own ow tr ex al tp fB fH fA fC fT fP : Nat → Int32} {post : Int32 → SY → Prop} (hS : nS ≤ 16) (hK : nK ≤ 16) {v1 v2 v3 : Int32} (h : ¬ (tf_in v1 nK ∧ tf_in v2 nS ∧ tf_in v3 nS)) (p : post 0 (nI nC, nI nT, nI nS, nI nD, nI nB, nI nK, dp, rs, st, op, kk, L, su, own, ow, tr, ex, al, tp, fB, fH, fA, fC, fT, fP)) : wpY_alias post (nI nC, nI nT, nI nS, nI nD, nI nB, nI nK, dp, rs, st, op, kk, L, su, own, ow, tr, ex, al, tp, fB, fH, fA, fC, fT, fP) v1 v2 v3 := by
  by_cases a : tf_in v1 nK
  · refine tf_r2t (by omega) a ?_
    by_cases b : tf_in v2 nS
    · exact ty_validSel_t hS b (br_f (by decide) (ty_validSel_f hS (fun c => h ⟨a, b, c⟩) (br_t rfl p)))
    · exact ty_validSel_f hS b (br_t rfl p)
  · exact tf_r2f (by omega) a p
/-- what a component's field is: 0, 1, 2, 16 + n, or nothing -/
theorem tf_fld (v : Int32) {nS : Nat} (hS : nS ≤ 16) : v = 0 ∨ v = 1 ∨ v = 2 ∨ (∃ n, n < nS ∧ v = nI (16 + n)) ∨ (¬ v = 0 ∧ ¬ v = 1 ∧ ¬ v = 2 ∧ (v < 16 ∨ (¬ v < 16 ∧ 16 + nI nS ≤ v))) := by
  by_cases a : v = 0
  · exact Or.inl a
  · by_cases b : v = 1
    · exact Or.inr (Or.inl b)
    · by_cases c : v = 2
      · exact Or.inr (Or.inr (Or.inl c))
      · right; right; right
        have h16 : nI 16 = 16 := rfl
        rcases pk_ix v (n := 16 + nS) (by omega) with d | d | ⟨j, hj, d⟩
        · exact Or.inr ⟨a, b, c, Or.inl (Int32.lt_of_lt_of_le d (by decide))⟩
        · refine Or.inr ⟨a, b, c, Or.inr ⟨?_, ?_⟩⟩
          · rw [Int32.not_lt, ← h16]
            exact Int32.le_trans (nI_le (by omega) (by omega)) d
          · rw [tf_16]
            exact d
        · rcases Nat.lt_or_ge j 16 with g | g
          · refine Or.inr ⟨a, b, c, Or.inl ?_⟩
            rw [d]
            exact nI_lt (b := 16) g (by omega)
          · exact Or.inl ⟨j - 16, by omega, by rw [d]; exact congrArg nI (by omega)⟩
theorem tf_m16 (n : Nat) : nI (16 + n) - 16 = nI n := by
  show nI (16 + n) - nI 16 = nI n
  rw [pk_sub (by omega), Nat.add_sub_cancel_left]
theorem tf_f16 {n : Nat} (h : n < 16) : (¬ nI (16 + n) = 0) ∧ (¬ nI (16 + n) = 1) ∧ (¬ nI (16 + n) = 2) ∧ ¬ nI (16 + n) < 16 := by
  refine ⟨nI_ne0 (by omega) (by omega), ?_, ?_, nI_nlt (b := 16) (by omega) (by omega)⟩
  · intro z
    have := (nI_eq (b := 1) (by omega) (by omega)).mp z
    omega
  · intro z
    have := (nI_eq (b := 2) (by omega) (by omega)).mp z
    omega
theorem tx_ci_f {nC nT nS nD nB nK : Nat} {ls rr rc sp fc : Int32} {L op kk su own ow tr xe al fl fA fC fT fP fB fH : Nat → Int32} {post : Int32 → Prop} (hK : nK ≤ 16) {v1 v2 : Int32} (h : ¬ tf_in v1 nK) (p : post (-3)) : wpX_componentInfo post (nI nC, nI nT, nI nS, nI nD, nI nB, nI nK, ls, rr, rc, sp, fc, L, op, kk, su, own, ow, tr, xe, al, fl, fA, fC, fT, fP, fB, fH) v1 v2 := by
  unfold wpX_componentInfo
  exact tx_isComponent_f hK h (br_t rfl p)
theorem tx_ci_0 {nC nT nS nD nB nK : Nat} {ls rr rc sp fc : Int32} {L op kk su own ow tr xe al fl fA fC fT fP fB fH : Nat → Int32} {post : Int32 → Prop} (hK : nK ≤ 16) {k : Nat} (hk : k < nK) (p : post (ow k)) : wpX_componentInfo post (nI nC, nI nT, nI nS, nI nD, nI nB, nI nK, ls, rr, rc, sp, fc, L, op, kk, su, own, ow, tr, xe, al, fl, fA, fC, fT, fP, fB, fH) (nI k) 0 := by
  unfold wpX_componentInfo
  refine tx_isComponent_t hK ⟨k, hk, rfl⟩ (br_f (by decide) (br_t rfl ⟨vp_in_nI (by omega) (by omega), ?_⟩))
  rw [nI_clamp (show k < 2 ^ 31 by omega)]
  exact p
theorem tx_ci_1 {nC nT nS nD nB nK : Nat} {ls rr rc sp fc : Int32} {L op kk su own ow tr xe al fl fA fC fT fP fB fH : Nat → Int32} {post : Int32 → Prop} (hK : nK ≤ 16) {k : Nat} (hk : k < nK) (p : post (tr k)) : wpX_componentInfo post (nI nC, nI nT, nI nS, nI nD, nI nB, nI nK, ls, rr, rc, sp, fc, L, op, kk, su, own, ow, tr, xe, al, fl, fA, fC, fT, fP, fB, fH) (nI k) 1 := by
  unfold wpX_componentInfo
  refine tx_isComponent_t hK ⟨k, hk, rfl⟩ (br_f (by decide) (br_f (by decide) (br_t rfl ⟨vp_in_nI (by omega) (by omega), ?_⟩)))
  rw [nI_clamp (show k < 2 ^ 31 by omega)]
  exact p
theorem tx_ci_2 {nC nT nS nD nB nK : Nat} {ls rr rc sp fc : Int32} {L op kk su own ow tr xe al fl fA fC fT fP fB fH : Nat → Int32} {post : Int32 → Prop} (hK : nK ≤ 16) {k : Nat} (hk : k < nK) (p : post (xe k)) : wpX_componentInfo post (nI nC, nI nT, nI nS, nI nD, nI nB, nI nK, ls, rr, rc, sp, fc, L, op, kk, su, own, ow, tr, xe, al, fl, fA, fC, fT, fP, fB, fH) (nI k) 2 := by
  unfold wpX_componentInfo
  refine tx_isComponent_t hK ⟨k, hk, rfl⟩ (br_f (by decide) (br_f (by decide) (br_f (by decide) (br_t rfl ⟨vp_in_nI (by omega) (by omega), ?_⟩))))
  rw [nI_clamp (show k < 2 ^ 31 by omega)]
  exact p
theorem tx_ci_a {nC nT nS nD nB nK : Nat} {ls rr rc sp fc : Int32} {L op kk su own ow tr xe al fl fA fC fT fP fB fH : Nat → Int32} {post : Int32 → Prop} (hK : nK ≤ 16) (hS : nS ≤ 16) {k n : Nat} (hk : k < nK) (hn : n < nS) (p : post (al (k * 16 + n))) : wpX_componentInfo post (nI nC, nI nT, nI nS, nI nD, nI nB, nI nK, ls, rr, rc, sp, fc, L, op, kk, su, own, ow, tr, xe, al, fl, fA, fC, fT, fP, fB, fH) (nI k) (nI (16 + n)) := by
  unfold wpX_componentInfo
  obtain ⟨a, b, c, d⟩ := tf_f16 (n := n) (by omega)
  refine tx_isComponent_t hK ⟨k, hk, rfl⟩ (br_f (by decide) (br_f a (br_f b (br_f c (br_f d (br_f ?_ ?_))))))
  · rw [tf_16]
    exact nI_ge (by omega) (by omega)
  · rw [tf_m16, tf_ix, nI_clamp (show k * 16 + n < 2 ^ 31 by omega)]
    exact ⟨vp_in_nI (by omega) (by omega), p⟩
theorem tx_ci_n {nC nT nS nD nB nK : Nat} {ls rr rc sp fc : Int32} {L op kk su own ow tr xe al fl fA fC fT fP fB fH : Nat → Int32} {post : Int32 → Prop} (hK : nK ≤ 16) {k : Nat} {v : Int32} (hk : k < nK) (h : ¬ v = 0 ∧ ¬ v = 1 ∧ ¬ v = 2 ∧ (v < 16 ∨ (¬ v < 16 ∧ 16 + nI nS ≤ v))) (p : post (-3)) : wpX_componentInfo post (nI nC, nI nT, nI nS, nI nD, nI nB, nI nK, ls, rr, rc, sp, fc, L, op, kk, su, own, ow, tr, xe, al, fl, fA, fC, fT, fP, fB, fH) (nI k) v := by
  unfold wpX_componentInfo
  obtain ⟨a, b, c, d⟩ := h
  refine tx_isComponent_t hK ⟨k, hk, rfl⟩ (br_f (by decide) (br_f a (br_f b (br_f c ?_))))
  rcases d with d | ⟨d, e⟩
  · exact br_t d p
  · exact br_f d (br_t e p)
theorem ty_ci_f {nC nT nS nD nB nK : Nat} {dp rs st : Int32} {op kk L su own ow tr ex al tp fB fH fA fC fT fP : Nat → Int32} {post : Int32 → Prop} (hK : nK ≤ 16) {v1 v2 : Int32} (h : ¬ tf_in v1 nK) (p : post (-3)) : wpY_componentInfo post (nI nC, nI nT, nI nS, nI nD, nI nB, nI nK, dp, rs, st, op, kk, L, su, own, ow, tr, ex, al, tp, fB, fH, fA, fC, fT, fP) v1 v2 := tf_r2f (by omega) h p
theorem ty_ci_0 {nC nT nS nD nB nK : Nat} {dp rs st : Int32} {op kk L su own ow tr ex al tp fB fH fA fC fT fP : Nat → Int32} {post : Int32 → Prop} (hK : nK ≤ 16) {k : Nat} (hk : k < nK) (p : post (ow k)) : wpY_componentInfo post (nI nC, nI nT, nI nS, nI nD, nI nB, nI nK, dp, rs, st, op, kk, L, su, own, ow, tr, ex, al, tp, fB, fH, fA, fC, fT, fP) (nI k) 0 := by
  refine tf_r2t (by omega) ⟨k, hk, rfl⟩ (br_t rfl ⟨vp_in_nI (by omega) (by omega), ?_⟩)
  rw [nI_clamp (show k < 2 ^ 31 by omega)]
  exact p
theorem ty_ci_1 {nC nT nS nD nB nK : Nat} {dp rs st : Int32} {op kk L su own ow tr ex al tp fB fH fA fC fT fP : Nat → Int32} {post : Int32 → Prop} (hK : nK ≤ 16) {k : Nat} (hk : k < nK) (p : post (tr k)) : wpY_componentInfo post (nI nC, nI nT, nI nS, nI nD, nI nB, nI nK, dp, rs, st, op, kk, L, su, own, ow, tr, ex, al, tp, fB, fH, fA, fC, fT, fP) (nI k) 1 := by
  refine tf_r2t (by omega) ⟨k, hk, rfl⟩ (br_f (by decide) (br_t rfl ⟨vp_in_nI (by omega) (by omega), ?_⟩))
  rw [nI_clamp (show k < 2 ^ 31 by omega)]
  exact p
theorem ty_ci_2 {nC nT nS nD nB nK : Nat} {dp rs st : Int32} {op kk L su own ow tr ex al tp fB fH fA fC fT fP : Nat → Int32} {xe : Nat → Int32} {post : Int32 → Prop} (hK : nK ≤ 16) (hS : nS ≤ 16) (hE : tf_EX nS xe ex) {k : Nat} (hk : k < nK) (p : post (xe k)) : wpY_componentInfo post (nI nC, nI nT, nI nS, nI nD, nI nB, nI nK, dp, rs, st, op, kk, L, su, own, ow, tr, ex, al, tp, fB, fH, fA, fC, fT, fP) (nI k) 2 := by
  obtain ⟨e, he, h1, h2⟩ := hE k (by omega)
  have lp : ∀ d i, i + d = nS → wY_componentInfo_48 post (nI k) (nI nC) (nI nT) (nI nS) (nI nD) (nI nB) (nI nK) dp rs st op kk L su own ow tr ex al tp fB fH fA fC fT fP (d + 1) (nI (e % 2 ^ i)) (nI i) := by
    intro d
    induction d with
    | zero =>
      intro i hi
      have ei : i = nS := by omega
      rw [ei, Nat.mod_eq_of_lt he, ← h1]
      exact br_t Int32.le_rfl p
    | succ d ih =>
      intro i hi
      refine br_f (nI_ge (by omega) (by omega)) ?_
      rw [tf_ix, nI_clamp (show k * 16 + i < 2 ^ 31 by omega), h2 i (by omega)]
      refine ⟨vp_in_nI (by omega) (by omega), ?_⟩
      have t := ih (i + 1) (by omega)
      cases c : e.testBit i with
      | false =>
        rw [tf_sum0 c] at t
        exact br_t rfl (nm_r (nI_1 i) t)
      | true => exact br_f (by decide) (nm_r (tf_sum1 (by omega) c) (nm_r (nI_1 i) t))
  have t := lp nS 0 (by omega)
  rw [Nat.pow_zero, Nat.mod_one] at t
  exact tf_r2t (by omega) ⟨k, hk, rfl⟩ (br_f (by decide) (br_f (by decide) (br_t rfl ⟨nS + 1, t⟩)))
theorem ty_ci_a {nC nT nS nD nB nK : Nat} {dp rs st : Int32} {op kk L su own ow tr ex al tp fB fH fA fC fT fP : Nat → Int32} {post : Int32 → Prop} (hK : nK ≤ 16) (hS : nS ≤ 16) {k n : Nat} (hk : k < nK) (hn : n < nS) (p : post (al (k * 16 + n))) : wpY_componentInfo post (nI nC, nI nT, nI nS, nI nD, nI nB, nI nK, dp, rs, st, op, kk, L, su, own, ow, tr, ex, al, tp, fB, fH, fA, fC, fT, fP) (nI k) (nI (16 + n)) := by
  obtain ⟨a, b, c, d⟩ := tf_f16 (n := n) (by omega)
  refine tf_r2t (by omega) ⟨k, hk, rfl⟩ (br_f a (br_f b (br_f c (br_f d (br_f ?_ ?_)))))
  · rw [tf_16]
    exact nI_ge (by omega) (by omega)
  · have e : nI k * 16 + nI (16 + n) - 16 = nI (k * 16 + n) := by
      rw [tf_ix, show k * 16 + (16 + n) = 16 + (k * 16 + n) by omega, tf_m16]
    rw [e, nI_clamp (show k * 16 + n < 2 ^ 31 by omega)]
    exact ⟨vp_in_nI (by omega) (by omega), p⟩
theorem ty_ci_n {nC nT nS nD nB nK : Nat} {dp rs st : Int32} {op kk L su own ow tr ex al tp fB fH fA fC fT fP : Nat → Int32} {post : Int32 → Prop} (hK : nK ≤ 16) {k : Nat} {v : Int32} (hk : k < nK) (h : ¬ v = 0 ∧ ¬ v = 1 ∧ ¬ v = 2 ∧ (v < 16 ∨ (¬ v < 16 ∧ 16 + nI nS ≤ v))) (p : post (-3)) : wpY_componentInfo post (nI nC, nI nT, nI nS, nI nD, nI nB, nI nK, dp, rs, st, op, kk, L, su, own, ow, tr, ex, al, tp, fB, fH, fA, fC, fT, fP) (nI k) v := by
  obtain ⟨a, b, c, d⟩ := h
  refine tf_r2t (by omega) ⟨k, hk, rfl⟩ (br_f a (br_f b (br_f c ?_)))
  rcases d with d | ⟨d, e⟩
  · exact br_t d p
  · exact br_f d (br_t e p)
/-! lookup -/
def tf_st (su : Nat → Int32) (c q : Nat) : Int32 := if q = 1 ∨ q = 3 then su c else nI c
def tf_wh (q : Nat) : Int32 := if q < 2 then 0 else 1
theorem tf_st_cl {nC : Nat} {su : Nat → Int32} (hU : tf_SV nC su) {c : Nat} (hc : c < nC) (q : Nat) : tf_cl nC (tf_st su c q) := by
  unfold tf_st
  split
  · exact tf_SV_cl hU hc
  · exact Or.inr ⟨c, hc, rfl⟩
theorem tx_lk60 {nC nT nS nD nB nK : Nat} {ls rr rc sp fc : Int32} {L op kk su own ow tr xe al fl fA fC fT fP fB fH : Nat → Int32} {ex : Nat → Int32} {post : Int32 → Prop} (hC : nC ≤ 8) (hS : nS ≤ 16) (hF : tf_FL nC nT nS nK own ow tr ex al fl) (hU : tf_SV nC su) {s q : Nat} (hs : s < nS) (hq : q < 4) {x : Int32} (hx : tf_cl nC x) (p : post (tf_lw su (fun c => tf_PR own ow tr ex al nK c s) (tf_wh q) 8 x)) : wX_lookup_60 post (nI s) (nI q) x (nI nC) (nI nT) (nI nS) (nI nD) (nI nB) (nI nK) ls rr rc sp fc L op kk su own ow tr xe al fl fA fC fT fP fB fH := by
  unfold wX_lookup_60
  refine tx_findHome hC hS hF hU hs hx ?_
  rcases tf_fh_cl (P := fun c => tf_PR own ow tr ex al nK c s) hC hU 8 x hx with e | ⟨h, hh, e, hn⟩
  · rw [e]
    refine br_t rfl ?_
    unfold tf_lw at p
    rw [e] at p
    by_cases w : tf_wh q = 0
    · rw [if_pos w, if_pos rfl] at p
      exact p
    · rw [if_neg w] at p
      exact p
  · rw [e]
    refine br_f (tf_m1 (by omega)) ?_
    unfold tf_lw at p
    rw [e, if_neg (tf_m1 (by omega)), nI_clamp (show h < 2 ^ 31 by omega)] at p
    have g : fl (h * 16 + s) = tf_PR own ow tr ex al nK h s := hF h s (Or.inl hh) hs
    by_cases w : q < 2
    · have w2 : tf_wh q = 0 := if_pos w
      rw [if_pos w2] at p
      refine pk_eq q 2 (fun z => absurd z (by omega)) (fun _ => pk_eq q 3 (fun z => absurd z (by omega)) (fun _ => ?_))
      rw [tf_ix, nI_clamp (show h * 16 + s < 2 ^ 31 by omega), g]
      exact ⟨vp_in_nI (by omega) (by omega), p⟩
    · have w2 : ¬ tf_wh q = 0 := by
        unfold tf_wh
        rw [if_neg w]
        decide
      rw [if_neg w2] at p
      exact pk_eq q 2 (fun _ => p) (fun z => pk_eq q 3 (fun _ => p) (fun z2 => absurd z2 (by omega)))
theorem tx_lk_t {nC nT nS nD nB nK : Nat} {ls rr rc sp fc : Int32} {L op kk su own ow tr xe al fl fA fC fT fP fB fH : Nat → Int32} {ex : Nat → Int32} {post : Int32 → Prop} (hC : nC ≤ 8) (hS : nS ≤ 16) (hF : tf_FL nC nT nS nK own ow tr ex al fl) (hU : tf_SV nC su) {c s q : Nat} (hc : c < nC) (hs : s < nS) (hq : q < 4) (p : post (tf_lw su (fun c => tf_PR own ow tr ex al nK c s) (tf_wh q) 8 (tf_st su c q))) : wpX_lookup post (nI nC, nI nT, nI nS, nI nD, nI nB, nI nK, ls, rr, rc, sp, fc, L, op, kk, su, own, ow, tr, xe, al, fl, fA, fC, fT, fP, fB, fH) (nI c) (nI s) (nI q) := by
  unfold wpX_lookup
  have w := tx_lk60 (nD := nD) (nB := nB) (ls := ls) (rr := rr) (rc := rc) (sp := sp) (fc := fc) (L := L) (op := op) (kk := kk) (xe := xe) (fA := fA) (fC := fC) (fT := fT) (fP := fP) (fB := fB) (fH := fH) hC hS hF hU hs hq (tf_st_cl hU hc q) p
  refine tx_isClass_t hC ⟨c, hc, rfl⟩ (br_f (by decide) (tx_isSelector_t hS ⟨s, hs, rfl⟩ (br_f (by decide) (br_f (nI_pos (by omega)) (br_t (nI_le (b := 3) (by omega) (by omega)) ?_)))))
  have w43 : (q = 1 ∨ q = 3) → wX_lookup_43 post (nI c) (nI s) (nI q) 1 (nI nC) (nI nT) (nI nS) (nI nD) (nI nB) (nI nK) ls rr rc sp fc L op kk su own ow tr xe al fl fA fC fT fP fB fH := by
    intro h
    unfold tf_st at w
    rw [if_pos h] at w
    unfold wX_lookup_43
    rw [nI_clamp (show c < 2 ^ 31 by omega)]
    exact br_f (by decide) ⟨vp_in_nI (by omega) (by omega), w⟩
  refine pk_eq q 1 (fun h => w43 (Or.inl h)) (fun h => pk_eq q 3 (fun h2 => w43 (Or.inr h2)) (fun h2 => ?_))
  unfold tf_st at w
  rw [if_neg (by omega)] at w
  exact br_t rfl w
theorem tx_lk_f {nC nT nS nD nB nK : Nat} {ls rr rc sp fc : Int32} {L op kk su own ow tr xe al fl fA fC fT fP fB fH : Nat → Int32} {post : Int32 → Prop} (hC : nC ≤ 8) (hS : nS ≤ 16) {v1 v2 v3 : Int32} (h : ¬ (tf_in v1 nC ∧ tf_in v2 nS ∧ tf_in v3 4)) (p : post (-3)) : wpX_lookup post (nI nC, nI nT, nI nS, nI nD, nI nB, nI nK, ls, rr, rc, sp, fc, L, op, kk, su, own, ow, tr, xe, al, fl, fA, fC, fT, fP, fB, fH) v1 v2 v3 := by
  unfold wpX_lookup
  by_cases a : tf_in v1 nC
  · refine tx_isClass_t hC a (br_f (by decide) ?_)
    by_cases b : tf_in v2 nS
    · refine tx_isSelector_t hS b (br_f (by decide) ?_)
      rcases tf_nin (n := 4) (by omega) (fun c => h ⟨a, b, c⟩) with e | ⟨e, e2, _⟩
      · exact br_t e p
      · exact br_f e (br_f (fun z => absurd (Int32.le_trans e2 z) (by decide)) p)
    · exact tx_isSelector_f hS b (br_t rfl p)
  · exact tx_isClass_f hC a (br_t rfl p)
theorem ty_lk_t {nC nT nS nD nB nK : Nat} {dp rs st : Int32} {op kk L su own ow tr ex al tp fB fH fA fC fT fP : Nat → Int32} {post : Int32 → SY → Prop} (hC : nC ≤ 8) (hS : nS ≤ 16) (hT : nT ≤ 8) (hK : nK ≤ 16) (hV : tf_CV nT nS nK ow tr al) (hU : tf_SV nC su) {c s q : Nat} (hc : c < nC) (hs : s < nS) (hq : q < 4) (p : ∀ g : Nat → Int32, post (tf_lw su (fun c => tf_PR own ow tr ex al nK c s) (tf_wh q) 8 (tf_st su c q)) (nI nC, nI nT, nI nS, nI nD, nI nB, nI nK, dp, rs, st, op, kk, L, su, own, ow, tr, ex, al, g, fB, fH, fA, fC, fT, fP)) : wpY_lookup post (nI nC, nI nT, nI nS, nI nD, nI nB, nI nK, dp, rs, st, op, kk, L, su, own, ow, tr, ex, al, tp, fB, fH, fA, fC, fT, fP) (nI c) (nI s) (nI q) := by
  have w53 : wY_lookup_53 post (nI s) (nI q) (tf_st su c q) (nI nC) (nI nT) (nI nS) (nI nD) (nI nB) (nI nK) dp rs st op kk L su own ow tr ex al tp fB fH fA fC fT fP := by
    refine pk_lt q 2 (fun h => ?_) (fun h => ?_)
    · have e : tf_wh q = 0 := if_pos h
      rw [e] at p
      unfold wY_lookup_67
      exact ty_lookupFrom hC hS hT hK hV hU hs (tf_st_cl hU hc q) p
    · have e : tf_wh q = 1 := if_neg (by omega)
      rw [e] at p
      unfold wY_lookup_67
      exact ty_lookupFrom hC hS hT hK hV hU hs (tf_st_cl hU hc q) p
  refine tf_r1t (by omega) ⟨c, hc, rfl⟩ (ty_validSel_t hS ⟨s, hs, rfl⟩ (br_f (by decide) (br_f (nI_pos (by omega)) (br_t (nI_le (b := 3) (by omega) (by omega)) ?_))))
  have w45 : (q = 1 ∨ q = 3) → wY_lookup_45 post (nI c) (nI s) (nI q) (nI nC) (nI nT) (nI nS) (nI nD) (nI nB) (nI nK) dp rs st op kk L su own ow tr ex al tp fB fH fA fC fT fP := by
    intro h
    unfold tf_st at w53
    rw [if_pos h] at w53
    unfold wY_lookup_45
    rw [nI_clamp (show c < 2 ^ 31 by omega)]
    exact ⟨vp_in_nI (by omega) (by omega), nm_e w53⟩
  refine pk_eq q 1 (fun h => w45 (Or.inl h)) (fun h => pk_eq q 3 (fun h2 => w45 (Or.inr h2)) (fun h2 => ?_))
  unfold tf_st at w53
  rw [if_neg (by omega)] at w53
  exact w53
theorem ty_lk_f {nC nT nS nD nB nK : Nat} {dp rs st : Int32} {op kk L su own ow tr ex al tp fB fH fA fC fT fP : Nat → Int32} {post : Int32 → SY → Prop} (hC : nC ≤ 8) (hS : nS ≤ 16) {v1 v2 v3 : Int32} (h : ¬ (tf_in v1 nC ∧ tf_in v2 nS ∧ tf_in v3 4)) (p : post (-3) (nI nC, nI nT, nI nS, nI nD, nI nB, nI nK, dp, rs, st, op, kk, L, su, own, ow, tr, ex, al, tp, fB, fH, fA, fC, fT, fP)) : wpY_lookup post (nI nC, nI nT, nI nS, nI nD, nI nB, nI nK, dp, rs, st, op, kk, L, su, own, ow, tr, ex, al, tp, fB, fH, fA, fC, fT, fP) v1 v2 v3 := by
  by_cases a : tf_in v1 nC
  · refine tf_r1t (by omega) a ?_
    by_cases b : tf_in v2 nS
    · refine ty_validSel_t hS b (br_f (by decide) ?_)
      rcases tf_nin (n := 4) (by omega) (fun c => h ⟨a, b, c⟩) with e | ⟨e, e2, _⟩
      · exact br_t e p
      · exact br_f e (br_f (fun z => absurd (Int32.le_trans e2 z) (by decide)) p)
    · exact ty_validSel_f hS b (br_t rfl p)
  · exact tf_r1f (by omega) a p
end
section
/-! the owed statements, but for run -/
theorem tx_begin_t {nC nT nS nD nB nK : Nat} {ls rr rc sp fc : Int32} {L op kk su own ow tr xe al fl fA fC fT fP fB fH : Nat → Int32} {post : Int32 → SX → Prop} (hB : nB < 16) (p : post (nI nB) (nI nC, nI nT, nI nS, nI nD, nI (nB + 1), nI nK, ls, rr, rc, sp, fc, L, op, kk, su, own, ow, tr, xe, al, fl, fA, fC, fT, fP, fB, fH)) : wpX_beginBody post (nI nC, nI nT, nI nS, nI nD, nI nB, nI nK, ls, rr, rc, sp, fc, L, op, kk, su, own, ow, tr, xe, al, fl, fA, fC, fT, fP, fB, fH) := by
  refine pk_eq nB 16 (fun z => absurd z (by omega)) (fun _ => nm_r (nI_1 nB) ?_)
  rw [nI_pred]
  exact p
theorem tx_begin_f {nC nT nS nD nB nK : Nat} {ls rr rc sp fc : Int32} {L op kk su own ow tr xe al fl fA fC fT fP fB fH : Nat → Int32} {post : Int32 → SX → Prop} (hB : nB = 16) (p : post (-3) (nI nC, nI nT, nI nS, nI nD, nI nB, nI nK, ls, rr, rc, sp, fc, L, op, kk, su, own, ow, tr, xe, al, fl, fA, fC, fT, fP, fB, fH)) : wpX_beginBody post (nI nC, nI nT, nI nS, nI nD, nI nB, nI nK, ls, rr, rc, sp, fc, L, op, kk, su, own, ow, tr, xe, al, fl, fA, fC, fT, fP, fB, fH) := br_t (by rw [hB]; rfl) p
theorem ty_begin_t {nC nT nS nD nB nK : Nat} {dp rs st : Int32} {op kk L su own ow tr ex al tp fB fH fA fC fT fP : Nat → Int32} {post : Int32 → SY → Prop} (hB : nB < 16) (h0 : L nB = 0) (p : post (nI nB) (nI nC, nI nT, nI nS, nI nD, nI (nB + 1), nI nK, dp, rs, st, op, kk, L, su, own, ow, tr, ex, al, tp, fB, fH, fA, fC, fT, fP)) : wpY_beginBody post (nI nC, nI nT, nI nS, nI nD, nI nB, nI nK, dp, rs, st, op, kk, L, su, own, ow, tr, ex, al, tp, fB, fH, fA, fC, fT, fP) := by
  refine br_t (nI_lt (b := 16) hB (by omega)) ⟨vp_in_nI hB (by omega), nm_r (e' := L) (by rw [nI_clamp (by omega)]; exact tf_uid h0) (nm_r (nI_1 nB) ?_)⟩
  rw [nI_pred]
  exact p
theorem ty_begin_f {nC nT nS nD nB nK : Nat} {dp rs st : Int32} {op kk L su own ow tr ex al tp fB fH fA fC fT fP : Nat → Int32} {post : Int32 → SY → Prop} (hB : nB = 16) (p : post (-3) (nI nC, nI nT, nI nS, nI nD, nI nB, nI nK, dp, rs, st, op, kk, L, su, own, ow, tr, ex, al, tp, fB, fH, fA, fC, fT, fP)) : wpY_beginBody post (nI nC, nI nT, nI nS, nI nD, nI nB, nI nK, dp, rs, st, op, kk, L, su, own, ow, tr, ex, al, tp, fB, fH, fA, fC, fT, fP) := br_f (by rw [hB]; decide) p
theorem i_vc_beginBody {k : Nat} {u : SX} {v : SY} (I : i_Rel k u v) (hk : k + 4 ≤ 2052) : wpX_beginBody (fun r u' => wpY_beginBody (fun r' v' => r' = r ∧ i_Rel (k + 4) u' v') v) u := by
  obtain ⟨nC, nT, nS, nD, nB, nK, ls, rr, rc, sp, fc, dp, rs, L, op, kk, su, own, ow, tr, xe, ex, al, fl, tp, fA, fC, fT, fP, fB, fH, rfl, rfl, h⟩ := I
  obtain ⟨⟨hC, hT, hS, hD, hB, hK⟩, hL, hCE, hU, hO, hV, hA, hE, hF⟩ := id h
  by_cases c : nB = 16
  · exact tx_begin_f c (ty_begin_f c ⟨rfl, tf_mk h⟩)
  · exact tx_begin_t (by omega) (ty_begin_t (by omega) (hL.2 nB (Nat.le_refl _) (by omega)) ⟨rfl, tf_mk ⟨⟨hC, hT, hS, hD, by omega, hK⟩, tf_LV_begin hL, tf_CE_begin (by omega) hL hCE, hU, tf_OV_mono hO, hV, hA, hE, hF⟩⟩)
theorem tf_ft_k {nS o : Nat} {v k : Int32} (h : tf_ft nS o v k) : (o = 6 ∨ o = 7) → ∃ s, s < nS ∧ k = nI s := by
  intro ho
  rcases h with ⟨_, ⟨s, hs, e⟩, e2⟩ | ⟨a, _⟩ | ⟨a, _⟩
  · exact ⟨s, hs, e2.trans e⟩
  · omega
  · omega
theorem i_vc_emit {k : Nat} {u : SX} {v : SY} (I : i_Rel k u v) (hk : k + 4 ≤ 2052) (v1 : Int32) (v2 : Int32) : wpX_emit (fun r u' => wpY_emit (fun r' v' => r' = r ∧ i_Rel (k + 4) u' v') v v1 v2) u v1 v2 := by
  obtain ⟨nC, nT, nS, nD, nB, nK, ls, rr, rc, sp, fc, dp, rs, L, op, kk, su, own, ow, tr, xe, ex, al, fl, tp, fA, fC, fT, fP, fB, fH, rfl, rfl, h⟩ := I
  obtain ⟨⟨hC, hT, hS, hD, hB, hK⟩, hL, hCE, hU, hO, hV, hA, hE, hF⟩ := id h
  rcases Nat.eq_zero_or_pos nB with z | z
  · subst z
    exact tx_emit_0 (br_t rfl ⟨rfl, tf_mk h⟩)
  · obtain ⟨b, rfl⟩ : ∃ b, nB = b + 1 := ⟨nB - 1, by omega⟩
    by_cases a : tf_in v1 9
    · obtain ⟨o, ho, rfl⟩ := a
      obtain ⟨l, hl, el⟩ := hL.1 b (by omega)
      by_cases c : l = 16
      · subst c
        exact tx_emit_16 (by omega) ho el (ty_emit_16 (by omega) ho el ⟨rfl, tf_mk h⟩)
      · rcases tf_fit nS ho v2 with ⟨q, f⟩ | f
        · exact tx_emit_t hS.2 (by omega) ho el (by omega) f (ty_emit_t hS.2 (by omega) ho el (by omega) f ⟨rfl, tf_mk ⟨⟨hC, hT, hS, hD, hB, hK⟩, tf_LV_emit hL (by omega) (by omega), tf_CE_emit hCE (by omega) (by omega) el (by omega) (tf_ft_k f), hU, hO, hV, hA, hE, hF⟩⟩)
        · exact tx_emit_n hS.2 (by omega) ho el (by omega) f (ty_emit_n hS.2 (by omega) ho el (by omega) f ⟨rfl, tf_mk h⟩)
    · exact tx_emit_b (by omega) a (ty_emit_b (by omega) a ⟨rfl, tf_mk h⟩)
theorem i_vc_bodyLength {k : Nat} {u : SX} {v : SY} (I : i_Rel k u v) (hk : k + 4 ≤ 2052) (v1 : Int32) : wpX_bodyLength (fun r => wpY_bodyLength (fun r' => r' = r ∧ i_Rel (k + 4) u v) v v1) u v1 := by
  obtain ⟨nC, nT, nS, nD, nB, nK, ls, rr, rc, sp, fc, dp, rs, L, op, kk, su, own, ow, tr, xe, ex, al, fl, tp, fA, fC, fT, fP, fB, fH, rfl, rfl, h⟩ := I
  obtain ⟨⟨hC, hT, hS, hD, hB, hK⟩, hL, hCE, hU, hO, hV, hA, hE, hF⟩ := id h
  unfold wpX_bodyLength
  by_cases a : tf_in v1 nB
  · have a' := a
    obtain ⟨b, hb, rfl⟩ := a
    have e : vp_in (nI b) 16 := vp_in_nI (by omega) (by omega)
    refine tx_isBody_t hB a' (br_f (by decide) ⟨e, ?_⟩)
    unfold wpY_bodyLength
    exact ty_validBody_t hB a' (br_f (by decide) ⟨e, rfl, tf_mk h⟩)
  · refine tx_isBody_f hB a (br_t rfl ?_)
    unfold wpY_bodyLength
    exact ty_validBody_f hB a (br_t rfl ⟨rfl, tf_mk h⟩)
theorem i_vc_code {k : Nat} {u : SX} {v : SY} (I : i_Rel k u v) (hk : k + 4 ≤ 2052) (v1 : Int32) (v2 : Int32) : wpX_code (fun r => wpY_code (fun r' => r' = r ∧ i_Rel (k + 4) u v) v v1 v2) u v1 v2 := by
  obtain ⟨nC, nT, nS, nD, nB, nK, ls, rr, rc, sp, fc, dp, rs, L, op, kk, su, own, ow, tr, xe, ex, al, fl, tp, fA, fC, fT, fP, fB, fH, rfl, rfl, h⟩ := I
  obtain ⟨⟨hC, hT, hS, hD, hB, hK⟩, hL, hCE, hU, hO, hV, hA, hE, hF⟩ := id h
  unfold wpX_code
  by_cases a : tf_in v1 nB
  · have a' := a
    obtain ⟨b, hb, rfl⟩ := a
    have e : vp_in (nI b) 16 := vp_in_nI (by omega) (by omega)
    have eb : (nI b).toNatClampNeg = b := nI_clamp (by omega)
    obtain ⟨l, hl, el⟩ := hL.1 b (by omega)
    have el' : L (nI b).toNatClampNeg = nI l := by rw [eb, el]
    refine tx_isBody_t hB a' (br_f (by decide) ?_)
    by_cases c : tf_in v2 l
    · obtain ⟨i, hi, rfl⟩ := c
      have c1 : nI i < L (nI b).toNatClampNeg := by
        rw [el']
        exact nI_lt hi (by omega)
      have e2 : vp_in (nI (b * 16 + i)) 256 := vp_in_nI (by omega) (by omega)
      have e3 : vp_in (nI b * 16 + nI i) 256 := by
        rw [tf_ix]
        exact e2
      refine br_f (nI_pos (by omega)) ⟨e, br_t c1 (nm_r (tf_ix b i) ⟨e2, e2, ?_⟩)⟩
      unfold wpY_code
      refine ty_validBody_t hB a' (br_f (by decide) (br_f (nI_pos (by omega)) ⟨e, br_t c1 ⟨e3, e3, ?_, tf_mk h⟩⟩))
      rw [tf_ix]
    · rcases tf_nin (n := l) (by omega) c with d | ⟨d, d2, d3⟩
      · refine br_t d ?_
        unfold wpY_code
        exact ty_validBody_t hB a' (br_f (by decide) (br_t d ⟨rfl, tf_mk h⟩))
      · have d4 : ¬ v2 < L (nI b).toNatClampNeg := by
          rw [el']
          exact d3
        refine br_f d ⟨e, br_f d4 ?_⟩
        unfold wpY_code
        exact ty_validBody_t hB a' (br_f (by decide) (br_f d ⟨e, br_f d4 ⟨rfl, tf_mk h⟩⟩))
  · refine tx_isBody_f hB a (br_t rfl ?_)
    unfold wpY_code
    exact ty_validBody_f hB a (br_t rfl ⟨rfl, tf_mk h⟩)
/-- what setSuper takes beside a good first argument: nothing, or a lower number -/
theorem tf_sup (v : Int32) (c : Nat) (hc : c < 2 ^ 31) : (v = -1) ∨ (∃ d, d < c ∧ v = nI d) ∨ (¬ v = -1 ∧ ((v < (-1) ∧ v < 0) ∨ (¬ v < (-1) ∧ ¬ v < 0 ∧ ¬ v < nI c))) := by
  by_cases a : v = -1
  · exact Or.inl a
  · rcases pk_ix v hc with b | b | b
    · refine Or.inr (Or.inr ⟨a, Or.inl ⟨?_, b⟩⟩)
      rw [Int32.lt_iff_toInt_lt, show (0 : Int32).toInt = 0 from by decide] at b
      rw [Int32.lt_iff_toInt_lt, show (-1 : Int32).toInt = -1 from by decide]
      have h2 : v.toInt ≠ -1 := fun z => a (Int32.toInt_inj.mp (z.trans (show (-1 : Int) = (-1 : Int32).toInt from by decide)))
      omega
    · have b0 := tf_ge0 hc b
      refine Or.inr (Or.inr ⟨a, Or.inr ⟨fun z => b0 (Int32.lt_trans z (by decide)), b0, Int32.not_lt.mpr b⟩⟩)
    · exact Or.inr (Or.inl b)
theorem tx_sup_t {nC nT nS nD nB nK : Nat} {ls rr rc sp fc : Int32} {L op kk su own ow tr xe al fl fA fC fT fP fB fH : Nat → Int32} {post : Int32 → SX → Prop} (hC : nC ≤ 8) {c : Nat} {x : Int32} (hc : c < nC) (hx : x = -1 ∨ ∃ d, d < c ∧ x = nI d) (p : post 1 (nI nC, nI nT, nI nS, nI nD, nI nB, nI nK, ls, rr, rc, sp, fc, L, op, kk, upd su c x, own, ow, tr, xe, al, fl, fA, fC, fT, fP, fB, fH)) : wpX_setSuper post (nI nC, nI nT, nI nS, nI nD, nI nB, nI nK, ls, rr, rc, sp, fc, L, op, kk, su, own, ow, tr, xe, al, fl, fA, fC, fT, fP, fB, fH) (nI c) x := by
  unfold wpX_setSuper
  have e : (nI c).toNatClampNeg = c := nI_clamp (by omega)
  have e2 : vp_in (nI c) 8 := vp_in_nI (by omega) (by omega)
  refine tx_isClass_t hC ⟨c, hc, rfl⟩ (br_f (by decide) ?_)
  rw [e]
  rcases hx with a | ⟨d, hd, a⟩
  · subst a
    exact br_f (by decide) (br_t (Int32.lt_of_lt_of_le (show (-1 : Int32) < 0 by decide) (nI_pos' (by omega))) ⟨e2, nm_e p⟩)
  · subst a
    exact br_f (fun z => nI_pos (n := d) (by omega) (Int32.lt_trans z (by decide))) (br_t (nI_lt hd (by omega)) ⟨e2, nm_e p⟩)
theorem ty_sup_t {nC nT nS nD nB nK : Nat} {dp rs st : Int32} {op kk L su own ow tr ex al tp fB fH fA fC fT fP : Nat → Int32} {post : Int32 → SY → Prop} (hC : nC ≤ 8) {c : Nat} {x : Int32} (hc : c < nC) (hx : x = -1 ∨ ∃ d, d < c ∧ x = nI d) (p : post 1 (nI nC, nI nT, nI nS, nI nD, nI nB, nI nK, dp, rs, st, op, kk, L, upd su c x, own, ow, tr, ex, al, tp, fB, fH, fA, fC, fT, fP)) : wpY_setSuper post (nI nC, nI nT, nI nS, nI nD, nI nB, nI nK, dp, rs, st, op, kk, L, su, own, ow, tr, ex, al, tp, fB, fH, fA, fC, fT, fP) (nI c) x := by
  have e : (nI c).toNatClampNeg = c := nI_clamp (by omega)
  have e2 : vp_in (nI c) 8 := vp_in_nI (by omega) (by omega)
  refine tf_r2t (by omega) ⟨c, hc, rfl⟩ ?_
  rw [e]
  rcases hx with a | ⟨d, hd, a⟩
  · exact br_t a ⟨e2, nm_e p⟩
  · subst a
    exact br_f (tf_m1 (by omega)) (br_f (nI_pos (by omega)) (br_t (nI_lt hd (by omega)) ⟨e2, nm_e p⟩))
theorem tx_sup_f {nC nT nS nD nB nK : Nat} {ls rr rc sp fc : Int32} {L op kk su own ow tr xe al fl fA fC fT fP fB fH : Nat → Int32} {post : Int32 → SX → Prop} (hC : nC ≤ 8) {v1 v2 : Int32} (h : ¬ tf_in v1 nC ∨ ∃ c, c < nC ∧ v1 = nI c ∧ ¬ v2 = -1 ∧ ((v2 < (-1) ∧ v2 < 0) ∨ (¬ v2 < (-1) ∧ ¬ v2 < 0 ∧ ¬ v2 < nI c))) (p : post 0 (nI nC, nI nT, nI nS, nI nD, nI nB, nI nK, ls, rr, rc, sp, fc, L, op, kk, su, own, ow, tr, xe, al, fl, fA, fC, fT, fP, fB, fH)) : wpX_setSuper post (nI nC, nI nT, nI nS, nI nD, nI nB, nI nK, ls, rr, rc, sp, fc, L, op, kk, su, own, ow, tr, xe, al, fl, fA, fC, fT, fP, fB, fH) v1 v2 := by
  unfold wpX_setSuper
  rcases h with a | ⟨c, hc, rfl, _, ⟨b, _⟩ | ⟨b, _, d⟩⟩
  · exact tx_isClass_f hC a (br_t rfl p)
  · exact tx_isClass_t hC ⟨c, hc, rfl⟩ (br_f (by decide) (br_t b p))
  · exact tx_isClass_t hC ⟨c, hc, rfl⟩ (br_f (by decide) (br_f b (br_f d p)))
theorem ty_sup_f {nC nT nS nD nB nK : Nat} {dp rs st : Int32} {op kk L su own ow tr ex al tp fB fH fA fC fT fP : Nat → Int32} {post : Int32 → SY → Prop} (hC : nC ≤ 8) {v1 v2 : Int32} (h : ¬ tf_in v1 nC ∨ ∃ c, c < nC ∧ v1 = nI c ∧ ¬ v2 = -1 ∧ ((v2 < (-1) ∧ v2 < 0) ∨ (¬ v2 < (-1) ∧ ¬ v2 < 0 ∧ ¬ v2 < nI c))) (p : post 0 (nI nC, nI nT, nI nS, nI nD, nI nB, nI nK, dp, rs, st, op, kk, L, su, own, ow, tr, ex, al, tp, fB, fH, fA, fC, fT, fP)) : wpY_setSuper post (nI nC, nI nT, nI nS, nI nD, nI nB, nI nK, dp, rs, st, op, kk, L, su, own, ow, tr, ex, al, tp, fB, fH, fA, fC, fT, fP) v1 v2 := by
  rcases h with a | ⟨c, hc, rfl, n, ⟨_, b⟩ | ⟨_, b, d⟩⟩
  · exact tf_r2f (by omega) a p
  · exact tf_r2t (by omega) ⟨c, hc, rfl⟩ (br_f n (br_t b p))
  · exact tf_r2t (by omega) ⟨c, hc, rfl⟩ (br_f n (br_f b (br_f d p)))
theorem i_vc_setSuper {k : Nat} {u : SX} {v : SY} (I : i_Rel k u v) (hk : k + 4 ≤ 2052) (v1 : Int32) (v2 : Int32) : wpX_setSuper (fun r u' => wpY_setSuper (fun r' v' => r' = r ∧ i_Rel (k + 4) u' v') v v1 v2) u v1 v2 := by
  obtain ⟨nC, nT, nS, nD, nB, nK, ls, rr, rc, sp, fc, dp, rs, L, op, kk, su, own, ow, tr, xe, ex, al, fl, tp, fA, fC, fT, fP, fB, fH, rfl, rfl, h⟩ := I
  obtain ⟨⟨hC, hT, hS, hD, hB, hK⟩, hL, hCE, hU, hO, hV, hA, hE, hF⟩ := id h
  by_cases a : tf_in v1 nC
  · obtain ⟨c, hc, rfl⟩ := a
    have good : (v2 = -1 ∨ ∃ d, d < c ∧ v2 = nI d) → wpX_setSuper (fun r u' => wpY_setSuper (fun r' v' => r' = r ∧ i_Rel (k + 4) u' v') (nI nC, nI nT, nI nS, nI nD, nI nB, nI nK, dp, rs, ls, op, kk, L, su, own, ow, tr, ex, al, tp, fB, fH, fA, fC, fT, fP) (nI c) v2) (nI nC, nI nT, nI nS, nI nD, nI nB, nI nK, ls, rr, rc, sp, fc, L, op, kk, su, own, ow, tr, xe, al, fl, fA, fC, fT, fP, fB, fH) (nI c) v2 := fun hx => tx_sup_t hC.2 hc hx (ty_sup_t hC.2 hc hx ⟨rfl, tf_mk ⟨⟨hC, hT, hS, hD, hB, hK⟩, hL, hCE, tf_SV_set hU hx, hO, hV, hA, hE, hF⟩⟩)
    rcases tf_sup v2 c (by omega) with b | b | b
    · exact good (Or.inl b)
    · exact good (Or.inr b)
    · exact tx_sup_f hC.2 (Or.inr ⟨c, hc, rfl, b⟩) (ty_sup_f hC.2 (Or.inr ⟨c, hc, rfl, b⟩) ⟨rfl, tf_mk h⟩)
  · exact tx_sup_f hC.2 (Or.inl a) (ty_sup_f hC.2 (Or.inl a) ⟨rfl, tf_mk h⟩)
theorem tx_sof_t {nC nT nS nD nB nK : Nat} {ls rr rc sp fc : Int32} {L op kk su own ow tr xe al fl fA fC fT fP fB fH : Nat → Int32} {post : Int32 → Prop} (hC : nC ≤ 8) {c : Nat} (hc : c < nC) (p : post (su c)) : wpX_superOf post (nI nC, nI nT, nI nS, nI nD, nI nB, nI nK, ls, rr, rc, sp, fc, L, op, kk, su, own, ow, tr, xe, al, fl, fA, fC, fT, fP, fB, fH) (nI c) := by
  unfold wpX_superOf
  refine tx_isClass_t hC ⟨c, hc, rfl⟩ (br_f (by decide) ⟨vp_in_nI (by omega) (by omega), ?_⟩)
  rw [nI_clamp (show c < 2 ^ 31 by omega)]
  exact p
theorem i_vc_superOf {k : Nat} {u : SX} {v : SY} (I : i_Rel k u v) (hk : k + 4 ≤ 2052) (v1 : Int32) : wpX_superOf (fun r => wpY_superOf (fun r' => r' = r ∧ i_Rel (k + 4) u v) v v1) u v1 := by
  obtain ⟨nC, nT, nS, nD, nB, nK, ls, rr, rc, sp, fc, dp, rs, L, op, kk, su, own, ow, tr, xe, ex, al, fl, tp, fA, fC, fT, fP, fB, fH, rfl, rfl, h⟩ := I
  obtain ⟨⟨hC, hT, hS, hD, hB, hK⟩, hL, hCE, hU, hO, hV, hA, hE, hF⟩ := id h
  by_cases a : tf_in v1 nC
  · obtain ⟨c, hc, rfl⟩ := a
    refine tx_sof_t hC.2 hc (tf_r2t (by omega) ⟨c, hc, rfl⟩ ⟨vp_in_nI (by omega) (by omega), ?_, tf_mk h⟩)
    rw [nI_clamp (show c < 2 ^ 31 by omega)]
  · unfold wpX_superOf
    exact tx_isClass_f hC.2 a (br_t rfl (tf_r2f (by omega) a ⟨rfl, tf_mk h⟩))
theorem i_vc_define {k : Nat} {u : SX} {v : SY} (I : i_Rel k u v) (hk : k + 4 ≤ 2052) (v1 : Int32) (v2 : Int32) (v3 : Int32) : wpX_define (fun r u' => wpY_define (fun r' v' => r' = r ∧ i_Rel (k + 4) u' v') v v1 v2 v3) u v1 v2 v3 := by
  obtain ⟨nC, nT, nS, nD, nB, nK, ls, rr, rc, sp, fc, dp, rs, L, op, kk, su, own, ow, tr, xe, ex, al, fl, tp, fA, fC, fT, fP, fB, fH, rfl, rfl, h⟩ := I
  obtain ⟨⟨hC, hT, hS, hD, hB, hK⟩, hL, hCE, hU, hO, hV, hA, hE, hF⟩ := id h
  by_cases a : tf_ow v1 nC nT ∧ tf_in v2 nS ∧ (v3 = -1 ∨ tf_in v3 nB)
  · obtain ⟨⟨j, hj, rfl⟩, ⟨s, hs, rfl⟩, hx⟩ := a
    exact tx_def_t hC.2 hT.2 hS.2 hK hB hE hV hj hs hx (fun g hg => ty_def_t hC.2 hT.2 hS.2 hB hj hs hx ⟨rfl, tf_mk ⟨⟨hC, hT, hS, hD, hB, hK⟩, hL, hCE, hU, tf_OV_set hO hx, hV, hA, hE, hg⟩⟩)
  · exact tx_def_f hC.2 hT.2 hS.2 hB a (ty_def_f hC.2 hT.2 hS.2 hB a ⟨rfl, tf_mk h⟩)
theorem i_vc_ownMethod {k : Nat} {u : SX} {v : SY} (I : i_Rel k u v) (hk : k + 4 ≤ 2052) (v1 : Int32) (v2 : Int32) : wpX_ownMethod (fun r => wpY_ownMethod (fun r' => r' = r ∧ i_Rel (k + 4) u v) v v1 v2) u v1 v2 := by
  obtain ⟨nC, nT, nS, nD, nB, nK, ls, rr, rc, sp, fc, dp, rs, L, op, kk, su, own, ow, tr, xe, ex, al, fl, tp, fA, fC, fT, fP, fB, fH, rfl, rfl, h⟩ := I
  obtain ⟨⟨hC, hT, hS, hD, hB, hK⟩, hL, hCE, hU, hO, hV, hA, hE, hF⟩ := id h
  by_cases a : tf_ow v1 nC nT ∧ tf_in v2 nS
  · obtain ⟨⟨j, hj, rfl⟩, ⟨s, hs, rfl⟩⟩ := a
    exact tx_own_t hC.2 hT.2 hS.2 hj hs (ty_own_t hC.2 hT.2 hS.2 hj hs ⟨rfl, tf_mk h⟩)
  · exact tx_own_f hC.2 hT.2 hS.2 a (ty_own_f hC.2 hT.2 hS.2 a ⟨rfl, tf_mk h⟩)
theorem i_vc_use {k : Nat} {u : SX} {v : SY} (I : i_Rel k u v) (hk : k + 4 ≤ 2052) (v1 : Int32) (v2 : Int32) : wpX_use (fun r u' => wpY_use (fun r' v' => r' = r ∧ i_Rel (k + 4) u' v') v v1 v2) u v1 v2 := by
  obtain ⟨nC, nT, nS, nD, nB, nK, ls, rr, rc, sp, fc, dp, rs, L, op, kk, su, own, ow, tr, xe, ex, al, fl, tp, fA, fC, fT, fP, fB, fH, rfl, rfl, h⟩ := I
  obtain ⟨⟨hC, hT, hS, hD, hB, hK⟩, hL, hCE, hU, hO, hV, hA, hE, hF⟩ := id h
  by_cases a : tf_ow v1 nC nT
  · by_cases b : tf_in v2 nT
    · obtain ⟨j, hj, rfl⟩ := a
      obtain ⟨t, ht, rfl⟩ := b
      by_cases c : (8 ≤ j ∧ j ≤ t + 8) ∨ nK = 16
      · exact tx_use_g hC.2 hT.2 hj ht c (ty_use_g hC.2 hT.2 hj ht c ⟨rfl, tf_mk h⟩)
      · have hK' : nK < 16 := by omega
        have h8 : 8 ≤ j → t + 8 < j := by omega
        have hV' := tf_CV_use hS.2 hV (fun s hs => (hA nK (Nat.le_refl _) hK').2 s hs) (o := j) (u := t) (by omega) ht h8
        exact tx_use_t hC.2 hT.2 hS.2 hK' hE hj ht h8 hV' (fun g hg => ty_use_t hC.2 hT.2 hK' (fun s hs => ⟨tf_ex0 hS.2 hE hA (Nat.le_refl _) hK' hs, (hA nK (Nat.le_refl _) hK').2 s hs⟩) hj ht h8 ⟨rfl, tf_mk ⟨⟨hC, hT, hS, hD, hB, hK'⟩, hL, hCE, hU, hO, hV', tf_AF_use hA, hE, hg⟩⟩)
    · exact tx_use_f hC.2 hT.2 (Or.inr b) (ty_use_f hC.2 hT.2 (Or.inr b) ⟨rfl, tf_mk h⟩)
  · exact tx_use_f hC.2 hT.2 (Or.inl a) (ty_use_f hC.2 hT.2 (Or.inl a) ⟨rfl, tf_mk h⟩)
theorem i_vc_exclude {k : Nat} {u : SX} {v : SY} (I : i_Rel k u v) (hk : k + 4 ≤ 2052) (v1 : Int32) (v2 : Int32) : wpX_exclude (fun r u' => wpY_exclude (fun r' v' => r' = r ∧ i_Rel (k + 4) u' v') v v1 v2) u v1 v2 := by
  obtain ⟨nC, nT, nS, nD, nB, nK, ls, rr, rc, sp, fc, dp, rs, L, op, kk, su, own, ow, tr, xe, ex, al, fl, tp, fA, fC, fT, fP, fB, fH, rfl, rfl, h⟩ := I
  obtain ⟨⟨hC, hT, hS, hD, hB, hK⟩, hL, hCE, hU, hO, hV, hA, hE, hF⟩ := id h
  by_cases a : tf_in v1 nK ∧ tf_in v2 nS
  · obtain ⟨⟨j, hj, rfl⟩, ⟨s, hs, rfl⟩⟩ := a
    exact tx_excl_t hC.2 hT.2 hS.2 hK hE hV hj hs (fun g hg => ty_excl_t hS.2 hK hj hs ⟨rfl, tf_mk ⟨⟨hC, hT, hS, hD, hB, hK⟩, hL, hCE, hU, hO, hV, tf_AF_excl hA hj, tf_EX_upd hS.2 hE (by omega) hs, hg⟩⟩)
  · exact tx_excl_f hS.2 hK a (ty_excl_f hS.2 hK a ⟨rfl, tf_mk h⟩)
theorem i_vc_alias {k : Nat} {u : SX} {v : SY} (I : i_Rel k u v) (hk : k + 4 ≤ 2052) (v1 : Int32) (v2 : Int32) (v3 : Int32) : wpX_alias (fun r u' => wpY_alias (fun r' v' => r' = r ∧ i_Rel (k + 4) u' v') v v1 v2 v3) u v1 v2 v3 := by
  obtain ⟨nC, nT, nS, nD, nB, nK, ls, rr, rc, sp, fc, dp, rs, L, op, kk, su, own, ow, tr, xe, ex, al, fl, tp, fA, fC, fT, fP, fB, fH, rfl, rfl, h⟩ := I
  obtain ⟨⟨hC, hT, hS, hD, hB, hK⟩, hL, hCE, hU, hO, hV, hA, hE, hF⟩ := id h
  by_cases a : tf_in v1 nK ∧ tf_in v2 nS ∧ tf_in v3 nS
  · obtain ⟨⟨j, hj, rfl⟩, ⟨n, hn, rfl⟩, ⟨r, hr, rfl⟩⟩ := a
    obtain ⟨_, _, _, _, _, _, _, h6⟩ := hV j hj
    rcases h6 n hn with e | ⟨q, hq, e⟩
    · exact tx_al_n hC.2 hT.2 hS.2 hK hE hj hn hr e (tf_CV_alias hV hr) (fun g hg => ty_al_t hS.2 hK hj hn hr (Or.inl e) ⟨rfl, tf_mk ⟨⟨hC, hT, hS, hD, hB, hK⟩, hL, hCE, hU, hO, tf_CV_alias hV hr, tf_AF_alias hA hj (by omega), hE, hg⟩⟩)
    · by_cases c : q = r
      · subst c
        refine tx_al_o hS.2 hK hj hn hr hq e (ty_al_t hS.2 hK hj hn hr (Or.inr e) ⟨(if_pos rfl).symm, ?_⟩)
        rw [tf_uid e]
        exact tf_mk h
      · exact tx_al_o hS.2 hK hj hn hr hq e (ty_al_o hS.2 hK hj hn hr hq c e ⟨(if_neg c).symm, tf_mk h⟩)
  · exact tx_al_f hS.2 hK a (ty_al_f hS.2 hK a ⟨rfl, tf_mk h⟩)
theorem i_vc_componentInfo {k : Nat} {u : SX} {v : SY} (I : i_Rel k u v) (hk : k + 4 ≤ 2052) (v1 : Int32) (v2 : Int32) : wpX_componentInfo (fun r => wpY_componentInfo (fun r' => r' = r ∧ i_Rel (k + 4) u v) v v1 v2) u v1 v2 := by
  obtain ⟨nC, nT, nS, nD, nB, nK, ls, rr, rc, sp, fc, dp, rs, L, op, kk, su, own, ow, tr, xe, ex, al, fl, tp, fA, fC, fT, fP, fB, fH, rfl, rfl, h⟩ := I
  obtain ⟨⟨hC, hT, hS, hD, hB, hK⟩, hL, hCE, hU, hO, hV, hA, hE, hF⟩ := id h
  by_cases a : tf_in v1 nK
  · obtain ⟨j, hj, rfl⟩ := a
    rcases tf_fld v2 hS.2 with rfl | rfl | rfl | ⟨n, hn, rfl⟩ | b
    · exact tx_ci_0 hK hj (ty_ci_0 hK hj ⟨rfl, tf_mk h⟩)
    · exact tx_ci_1 hK hj (ty_ci_1 hK hj ⟨rfl, tf_mk h⟩)
    · exact tx_ci_2 hK hj (ty_ci_2 hK hS.2 hE hj ⟨rfl, tf_mk h⟩)
    · exact tx_ci_a hK hS.2 hj hn (ty_ci_a hK hS.2 hj hn ⟨rfl, tf_mk h⟩)
    · exact tx_ci_n hK hj b (ty_ci_n hK hj b ⟨rfl, tf_mk h⟩)
  · exact tx_ci_f hK a (ty_ci_f hK a ⟨rfl, tf_mk h⟩)
theorem i_vc_provided {k : Nat} {u : SX} {v : SY} (I : i_Rel k u v) (hk : k + 4 ≤ 2052) (v1 : Int32) (v2 : Int32) : wpX_provided (fun r => wpY_provided (fun r' v' => r' = r ∧ i_Rel (k + 4) u v') v v1 v2) u v1 v2 := by
  obtain ⟨nC, nT, nS, nD, nB, nK, ls, rr, rc, sp, fc, dp, rs, L, op, kk, su, own, ow, tr, xe, ex, al, fl, tp, fA, fC, fT, fP, fB, fH, rfl, rfl, h⟩ := I
  obtain ⟨⟨hC, hT, hS, hD, hB, hK⟩, hL, hCE, hU, hO, hV, hA, hE, hF⟩ := id h
  by_cases a : tf_ow v1 nC nT ∧ tf_in v2 nS
  · obtain ⟨⟨j, hj, rfl⟩, ⟨s, hs, rfl⟩⟩ := a
    exact tx_prov_t hC.2 hT.2 hS.2 hj hs (ty_prov_t hC.2 hT.2 hS.2 hK hV hj hs (fun g => ⟨(hF j s hj hs).symm, tf_mk h⟩))
  · exact tx_prov_f hC.2 hT.2 hS.2 a (ty_prov_f hC.2 hT.2 hS.2 a ⟨rfl, tf_mk h⟩)
theorem i_vc_lookup {k : Nat} {u : SX} {v : SY} (I : i_Rel k u v) (hk : k + 4 ≤ 2052) (v1 : Int32) (v2 : Int32) (v3 : Int32) : wpX_lookup (fun r => wpY_lookup (fun r' v' => r' = r ∧ i_Rel (k + 4) u v') v v1 v2 v3) u v1 v2 v3 := by
  obtain ⟨nC, nT, nS, nD, nB, nK, ls, rr, rc, sp, fc, dp, rs, L, op, kk, su, own, ow, tr, xe, ex, al, fl, tp, fA, fC, fT, fP, fB, fH, rfl, rfl, h⟩ := I
  obtain ⟨⟨hC, hT, hS, hD, hB, hK⟩, hL, hCE, hU, hO, hV, hA, hE, hF⟩ := id h
  by_cases a : tf_in v1 nC ∧ tf_in v2 nS ∧ tf_in v3 4
  · obtain ⟨⟨c, hc, rfl⟩, ⟨s, hs, rfl⟩, ⟨q, hq, rfl⟩⟩ := a
    exact tx_lk_t hC.2 hS.2 hF hU hc hs hq (ty_lk_t hC.2 hS.2 hT.2 hK hV hU hc hs hq (fun g => ⟨rfl, tf_mk h⟩))
  · exact tx_lk_f hC.2 hS.2 a (ty_lk_f hC.2 hS.2 a ⟨rfl, tf_mk h⟩)
theorem i_vc_runStatus {k : Nat} {u : SX} {v : SY} (I : i_Rel k u v) (hk : k + 4 ≤ 2052) : wpX_runStatus (fun r => wpY_runStatus (fun r' => r' = r ∧ i_Rel (k + 4) u v) v) u := by
  obtain ⟨nC, nT, nS, nD, nB, nK, ls, rr, rc, sp, fc, dp, rs, L, op, kk, su, own, ow, tr, xe, ex, al, fl, tp, fA, fC, fT, fP, fB, fH, rfl, rfl, h⟩ := I
  obtain ⟨⟨hC, hT, hS, hD, hB, hK⟩, hL, hCE, hU, hO, hV, hA, hE, hF⟩ := id h
  exact ⟨rfl, tf_mk h⟩
end
section
/-! one turn of a run: the component -/
theorem tx_ret_0 {nC nT nS nD nB nK : Nat} {ls rr rc sp : Int32} {L op kk su own ow tr xe al fl fA fC fT fP fB fH : Nat → Int32} {post : SX → Prop} (p : post (nI nC, nI nT, nI nS, nI nD, nI nB, nI nK, 1, fC 0, rc, sp, 0, L, op, kk, su, own, ow, tr, xe, al, fl, fA, fC, fT, fP, fB, fH)) : wpX_returnFromTopFrame post (nI nC, nI nT, nI nS, nI nD, nI nB, nI nK, ls, rr, rc, sp, nI (0 + 1), L, op, kk, su, own, ow, tr, xe, al, fl, fA, fC, fT, fP, fB, fH) := by
  unfold wpX_returnFromTopFrame
  dsimp only
  rw [nI_pred 0, nI_clamp (show 0 < 2 ^ 31 by omega)]
  exact ⟨vp_in_nI (by omega) (by omega), nm_e (nm_e (br_t rfl p))⟩
theorem tx_ret_s {nC nT nS nD nB nK : Nat} {ls rr rc sp : Int32} {L op kk su own ow tr xe al fl fA fC fT fP fB fH : Nat → Int32} {e : Nat} {post : SX → Prop} (he : e < 15) (p : post (nI nC, nI nT, nI nS, nI nD, nI nB, nI nK, ls, rr, rc, sp, nI (e + 1), L, op, kk, su, own, ow, tr, xe, al, fl, fA, upd fC e (fC (e + 1)), fT, fP, fB, fH)) : wpX_returnFromTopFrame post (nI nC, nI nT, nI nS, nI nD, nI nB, nI nK, ls, rr, rc, sp, nI (e + 1 + 1), L, op, kk, su, own, ow, tr, xe, al, fl, fA, fC, fT, fP, fB, fH) := by
  unfold wpX_returnFromTopFrame
  dsimp only
  rw [nI_pred (e + 1), nI_clamp (show e + 1 < 2 ^ 31 by omega)]
  refine ⟨vp_in_nI (by omega) (by omega), nm_e (nm_e (br_f (nI_ne0 (by omega) (by omega)) ?_))⟩
  rw [nI_pred e, nI_clamp (show e < 2 ^ 31 by omega)]
  exact ⟨vp_in_nI (by omega) (by omega), nm_e p⟩
theorem tx_ex_0 {nC nT nS nD nB nK : Nat} {ls rr rc sp fc : Int32} {L op kk su own ow tr xe al fl fA fC fT fP fB fH : Nat → Int32} {e i : Nat} {post : SX → Prop} (he : e < 16) (hi : i < 256) (ho : op i = nI 0) (p : post (nI nC, nI nT, nI nS, nI nD, nI nB, nI nK, ls, rr, rc, sp, fc, L, op, kk, su, own, ow, tr, xe, al, fl, fA, upd fC e (fA e), fT, fP, fB, fH)) : wpX_execute post (nI nC, nI nT, nI nS, nI nD, nI nB, nI nK, ls, rr, rc, sp, fc, L, op, kk, su, own, ow, tr, xe, al, fl, fA, fC, fT, fP, fB, fH) (nI e) (nI i) := by
  unfold wpX_execute
  dsimp only
  rw [nI_clamp (show i < 2 ^ 31 by omega), nI_clamp (show e < 2 ^ 31 by omega)]
  have v16 : vp_in (nI e) 16 := vp_in_nI he (by omega)
  exact ⟨vp_in_nI hi (by omega), nm_e ⟨vp_in_nI hi (by omega), nm_r ho (br_f (by decide) (br_f (by decide) (br_t rfl ⟨v16, v16, nm_e p⟩)))⟩⟩
theorem tx_ex_1 {nC nT nS nD nB nK : Nat} {ls rr rc sp fc : Int32} {L op kk su own ow tr xe al fl fA fC fT fP fB fH : Nat → Int32} {e i : Nat} {post : SX → Prop} (he : e < 16) (hi : i < 256) (ho : op i = nI 1) (p : post (nI nC, nI nT, nI nS, nI nD, nI nB, nI nK, ls, rr, rc, sp, fc, L, op, kk, su, own, ow, tr, xe, al, fl, fA, upd fC e (kk i), fT, fP, fB, fH)) : wpX_execute post (nI nC, nI nT, nI nS, nI nD, nI nB, nI nK, ls, rr, rc, sp, fc, L, op, kk, su, own, ow, tr, xe, al, fl, fA, fC, fT, fP, fB, fH) (nI e) (nI i) := by
  unfold wpX_execute
  dsimp only
  rw [nI_clamp (show i < 2 ^ 31 by omega), nI_clamp (show e < 2 ^ 31 by omega)]
  have v16 : vp_in (nI e) 16 := vp_in_nI he (by omega)
  exact ⟨vp_in_nI hi (by omega), nm_e ⟨vp_in_nI hi (by omega), nm_r ho (br_f (by decide) (br_f (by decide) (br_f (by decide) (br_t rfl ⟨v16, nm_e p⟩))))⟩⟩
theorem tx_ex_2 {nC nT nS nD nB nK : Nat} {ls rr rc sp fc : Int32} {L op kk su own ow tr xe al fl fA fC fT fP fB fH : Nat → Int32} {e i : Nat} {post : SX → Prop} (he : e < 16) (hi : i < 256) (ho : op i = nI 2) (p : post (nI nC, nI nT, nI nS, nI nD, nI nB, nI nK, ls, rr, rc, sp, fc, L, op, kk, su, own, ow, tr, xe, al, fl, fA, upd fC e (fC e + kk i), fT, fP, fB, fH)) : wpX_execute post (nI nC, nI nT, nI nS, nI nD, nI nB, nI nK, ls, rr, rc, sp, fc, L, op, kk, su, own, ow, tr, xe, al, fl, fA, fC, fT, fP, fB, fH) (nI e) (nI i) := by
  unfold wpX_execute
  dsimp only
  rw [nI_clamp (show i < 2 ^ 31 by omega), nI_clamp (show e < 2 ^ 31 by omega)]
  have v16 : vp_in (nI e) 16 := vp_in_nI he (by omega)
  exact ⟨vp_in_nI hi (by omega), nm_e ⟨vp_in_nI hi (by omega), nm_r ho (br_f (by decide) (br_f (by decide) (br_f (by decide) (br_f (by decide) (br_t rfl ⟨v16, v16, nm_e p⟩)))))⟩⟩
theorem tx_ex_3 {nC nT nS nD nB nK : Nat} {ls rr rc sp fc : Int32} {L op kk su own ow tr xe al fl fA fC fT fP fB fH : Nat → Int32} {e i : Nat} {post : SX → Prop} (he : e < 16) (hi : i < 256) (ho : op i = nI 3) (p : post (nI nC, nI nT, nI nS, nI nD, nI nB, nI nK, ls, rr, rc, sp, fc, L, op, kk, su, own, ow, tr, xe, al, fl, fA, upd fC e (fC e * kk i), fT, fP, fB, fH)) : wpX_execute post (nI nC, nI nT, nI nS, nI nD, nI nB, nI nK, ls, rr, rc, sp, fc, L, op, kk, su, own, ow, tr, xe, al, fl, fA, fC, fT, fP, fB, fH) (nI e) (nI i) := by
  unfold wpX_execute
  dsimp only
  rw [nI_clamp (show i < 2 ^ 31 by omega), nI_clamp (show e < 2 ^ 31 by omega)]
  have v16 : vp_in (nI e) 16 := vp_in_nI he (by omega)
  exact ⟨vp_in_nI hi (by omega), nm_e ⟨vp_in_nI hi (by omega), nm_r ho (br_f (by decide) (br_f (by decide) (br_f (by decide) (br_f (by decide) (br_f (by decide) (br_t rfl ⟨v16, v16, nm_e p⟩))))))⟩⟩
theorem tx_ex_4 {nC nT nS nD nB nK : Nat} {ls rr rc sp fc : Int32} {L op kk su own ow tr xe al fl fA fC fT fP fB fH : Nat → Int32} {e i : Nat} {post : SX → Prop} (he : e < 16) (hi : i < 256) (ho : op i = nI 4) (p : post (nI nC, nI nT, nI nS, nI nD, nI nB, nI nK, ls, rr, rc, sp, fc, L, op, kk, su, own, ow, tr, xe, al, fl, fA, fC, upd fT e (fC e), fP, fB, fH)) : wpX_execute post (nI nC, nI nT, nI nS, nI nD, nI nB, nI nK, ls, rr, rc, sp, fc, L, op, kk, su, own, ow, tr, xe, al, fl, fA, fC, fT, fP, fB, fH) (nI e) (nI i) := by
  unfold wpX_execute
  dsimp only
  rw [nI_clamp (show i < 2 ^ 31 by omega), nI_clamp (show e < 2 ^ 31 by omega)]
  have v16 : vp_in (nI e) 16 := vp_in_nI he (by omega)
  exact ⟨vp_in_nI hi (by omega), nm_e ⟨vp_in_nI hi (by omega), nm_r ho (br_f (by decide) (br_f (by decide) (br_f (by decide) (br_f (by decide) (br_f (by decide) (br_f (by decide) (br_t rfl ⟨v16, v16, nm_e p⟩)))))))⟩⟩
theorem tx_ex_5 {nC nT nS nD nB nK : Nat} {ls rr rc sp fc : Int32} {L op kk su own ow tr xe al fl fA fC fT fP fB fH : Nat → Int32} {e i : Nat} {post : SX → Prop} (he : e < 16) (hi : i < 256) (ho : op i = nI 5) (p : post (nI nC, nI nT, nI nS, nI nD, nI nB, nI nK, ls, rr, rc, sp, fc, L, op, kk, su, own, ow, tr, xe, al, fl, fA, upd fC e (fC e + fT e), fT, fP, fB, fH)) : wpX_execute post (nI nC, nI nT, nI nS, nI nD, nI nB, nI nK, ls, rr, rc, sp, fc, L, op, kk, su, own, ow, tr, xe, al, fl, fA, fC, fT, fP, fB, fH) (nI e) (nI i) := by
  unfold wpX_execute
  dsimp only
  rw [nI_clamp (show i < 2 ^ 31 by omega), nI_clamp (show e < 2 ^ 31 by omega)]
  have v16 : vp_in (nI e) 16 := vp_in_nI he (by omega)
  exact ⟨vp_in_nI hi (by omega), nm_e ⟨vp_in_nI hi (by omega), nm_r ho (br_f (by decide) (br_f (by decide) (br_f (by decide) (br_f (by decide) (br_f (by decide) (br_f (by decide) (br_f (by decide) (br_t rfl ⟨v16, v16, v16, nm_e p⟩))))))))⟩⟩
theorem tx_ex_8r {nC nT nS nD nB nK : Nat} {ls rr rc sp : Int32} {L op kk su own ow tr xe al fl fA fC fT fP fB fH : Nat → Int32} {e i : Nat} {post : SX → Prop} (he : e < 15) (hi : i < 256) (ho : op i = nI 8) (p : post (nI nC, nI nT, nI nS, nI nD, nI nB, nI nK, ls, rr, rc, sp, nI (e + 1), L, op, kk, su, own, ow, tr, xe, al, fl, fA, upd fC e (fC (e + 1)), fT, fP, fB, fH)) : wpX_execute post (nI nC, nI nT, nI nS, nI nD, nI nB, nI nK, ls, rr, rc, sp, nI (e + 1 + 1), L, op, kk, su, own, ow, tr, xe, al, fl, fA, fC, fT, fP, fB, fH) (nI (e + 1)) (nI i) := by
  unfold wpX_execute
  dsimp only
  rw [nI_clamp (show i < 2 ^ 31 by omega)]
  exact ⟨vp_in_nI hi (by omega), nm_e ⟨vp_in_nI hi (by omega), nm_r ho (br_f (by decide) (br_t (by decide) (tx_ret_s he p)))⟩⟩
theorem tx_ex_8e {nC nT nS nD nB nK : Nat} {ls rr rc sp : Int32} {L op kk su own ow tr xe al fl fA fC fT fP fB fH : Nat → Int32} {i : Nat} {x : Int32} {post : SX → Prop} (hi : i < 256) (ho : op i = nI 8) (p : post (nI nC, nI nT, nI nS, nI nD, nI nB, nI nK, 1, fC 0, rc, sp, 0, L, op, kk, su, own, ow, tr, xe, al, fl, fA, fC, fT, fP, fB, fH)) : wpX_execute post (nI nC, nI nT, nI nS, nI nD, nI nB, nI nK, ls, rr, rc, sp, nI (0 + 1), L, op, kk, su, own, ow, tr, xe, al, fl, fA, fC, fT, fP, fB, fH) x (nI i) := by
  unfold wpX_execute
  dsimp only
  rw [nI_clamp (show i < 2 ^ 31 by omega)]
  exact ⟨vp_in_nI hi (by omega), nm_e ⟨vp_in_nI hi (by omega), nm_r ho (br_f (by decide) (br_t (by decide) (tx_ret_0 p)))⟩⟩
theorem tx_ex_6e {nC nT nS nD nB nK : Nat} {ls rr rc sp : Int32} {L op kk su own ow tr xe al fl fA fC fT fP fB fH : Nat → Int32} {ex : Nat → Int32} {e i d s : Nat} {z : Int32} {post : SX → Prop} (hC : nC ≤ 8) (hS : nS ≤ 16) (hB : nB ≤ 16) (hD : nD ≤ 16) (hF : tf_FL nC nT nS nK own ow tr ex al fl) (hU : tf_SV nC su) (he : e < 16) (hi : i < 256) (ho : op i = nI 6) (hs : s < nS) (ks : kk i = nI s) (hx : tf_cl nC rc) (hd : d ≤ nD) (q : tf_SE nC nB nD d su (fun c => tf_PR own ow tr ex al nK c s) (rc) z) (p : post (nI nC, nI nT, nI nS, nI nD, nI nB, nI nK, z, 0, rc, sp, 0, L, op, kk, su, own, ow, tr, xe, al, fl, fA, fC, fT, fP, fB, fH)) : wpX_execute post (nI nC, nI nT, nI nS, nI nD, nI nB, nI nK, ls, rr, rc, sp, nI d, L, op, kk, su, own, ow, tr, xe, al, fl, fA, fC, fT, fP, fB, fH) (nI e) (nI i) := by
  unfold wpX_execute
  dsimp only
  rw [nI_clamp (show i < 2 ^ 31 by omega), nI_clamp (show e < 2 ^ 31 by omega), ks]
  have v16 : vp_in (nI e) 16 := vp_in_nI he (by omega)
  exact ⟨vp_in_nI hi (by omega), nm_e ⟨vp_in_nI hi (by omega), nm_r ho (br_f (by decide) (br_f (by decide) (br_f (by decide) (br_f (by decide) (br_f (by decide) (br_f (by decide) (br_f (by decide) (br_f (by decide) (br_t rfl ⟨v16, tx_send_e hC hS hB hD hF hU hs hx hd q p⟩)))))))))⟩⟩
theorem tx_ex_6p {nC nT nS nD nB nK : Nat} {ls rr rc sp : Int32} {L op kk su own ow tr xe al fl fA fC fT fP fB fH : Nat → Int32} {ex : Nat → Int32} {e i d s b' h' : Nat} {post : SX → Prop} (hC : nC ≤ 8) (hS : nS ≤ 16) (hB : nB ≤ 16) (hD : nD ≤ 16) (hF : tf_FL nC nT nS nK own ow tr ex al fl) (hU : tf_SV nC su) (he : e < 16) (hi : i < 256) (ho : op i = nI 6) (hs : s < nS) (ks : kk i = nI s) (hx : tf_cl nC rc) (q : tf_SP nC nB nD d su (fun c => tf_PR own ow tr ex al nK c s) (rc) b' h') (p : post (nI nC, nI nT, nI nS, nI nD, nI nB, nI nK, ls, rr, rc, sp, nI (d + 1), L, op, kk, su, own, ow, tr, xe, al, fl, upd fA d (fC e), upd fC d (fC e), upd fT d 0, upd fP d 0, upd fB d (nI b'), upd fH d (nI h'))) : wpX_execute post (nI nC, nI nT, nI nS, nI nD, nI nB, nI nK, ls, rr, rc, sp, nI d, L, op, kk, su, own, ow, tr, xe, al, fl, fA, fC, fT, fP, fB, fH) (nI e) (nI i) := by
  unfold wpX_execute
  dsimp only
  rw [nI_clamp (show i < 2 ^ 31 by omega), nI_clamp (show e < 2 ^ 31 by omega), ks]
  have v16 : vp_in (nI e) 16 := vp_in_nI he (by omega)
  exact ⟨vp_in_nI hi (by omega), nm_e ⟨vp_in_nI hi (by omega), nm_r ho (br_f (by decide) (br_f (by decide) (br_f (by decide) (br_f (by decide) (br_f (by decide) (br_f (by decide) (br_f (by decide) (br_f (by decide) (br_t rfl ⟨v16, tx_send_p hC hS hB hD hF hU hs hx q p⟩)))))))))⟩⟩
theorem tx_ex_7e {nC nT nS nD nB nK : Nat} {ls rr rc sp : Int32} {L op kk su own ow tr xe al fl fA fC fT fP fB fH : Nat → Int32} {ex : Nat → Int32} {e i d s : Nat} {h : Nat} {z : Int32} {post : SX → Prop} (hC : nC ≤ 8) (hS : nS ≤ 16) (hB : nB ≤ 16) (hD : nD ≤ 16) (hF : tf_FL nC nT nS nK own ow tr ex al fl) (hU : tf_SV nC su) (he : e < 16) (hi : i < 256) (ho : op i = nI 7) (hs : s < nS) (ks : kk i = nI s) (hh : h < nC) (eh : fH e = nI h) (hx : tf_cl nC (su h)) (hd : d ≤ nD) (q : tf_SE nC nB nD d su (fun c => tf_PR own ow tr ex al nK c s) (su h) z) (p : post (nI nC, nI nT, nI nS, nI nD, nI nB, nI nK, z, 0, rc, sp, 0, L, op, kk, su, own, ow, tr, xe, al, fl, fA, fC, fT, fP, fB, fH)) : wpX_execute post (nI nC, nI nT, nI nS, nI nD, nI nB, nI nK, ls, rr, rc, sp, nI d, L, op, kk, su, own, ow, tr, xe, al, fl, fA, fC, fT, fP, fB, fH) (nI e) (nI i) := by
  unfold wpX_execute
  dsimp only
  rw [nI_clamp (show i < 2 ^ 31 by omega), nI_clamp (show e < 2 ^ 31 by omega), ks, eh, nI_clamp (show h < 2 ^ 31 by omega)]
  have v16 : vp_in (nI e) 16 := vp_in_nI he (by omega)
  have v8 : vp_in (nI h) 8 := vp_in_nI (by omega) (by omega)
  exact ⟨vp_in_nI hi (by omega), nm_e ⟨vp_in_nI hi (by omega), nm_r ho (br_f (by decide) (br_f (by decide) (br_f (by decide) (br_f (by decide) (br_f (by decide) (br_f (by decide) (br_f (by decide) (br_f (by decide) (br_f (by decide) (br_t rfl ⟨v16, v16, v8, tx_send_e hC hS hB hD hF hU hs hx hd q p⟩))))))))))⟩⟩
theorem tx_ex_7p {nC nT nS nD nB nK : Nat} {ls rr rc sp : Int32} {L op kk su own ow tr xe al fl fA fC fT fP fB fH : Nat → Int32} {ex : Nat → Int32} {e i d s b' h' : Nat} {h : Nat} {post : SX → Prop} (hC : nC ≤ 8) (hS : nS ≤ 16) (hB : nB ≤ 16) (hD : nD ≤ 16) (hF : tf_FL nC nT nS nK own ow tr ex al fl) (hU : tf_SV nC su) (he : e < 16) (hi : i < 256) (ho : op i = nI 7) (hs : s < nS) (ks : kk i = nI s) (hh : h < nC) (eh : fH e = nI h) (hx : tf_cl nC (su h)) (q : tf_SP nC nB nD d su (fun c => tf_PR own ow tr ex al nK c s) (su h) b' h') (p : post (nI nC, nI nT, nI nS, nI nD, nI nB, nI nK, ls, rr, rc, sp, nI (d + 1), L, op, kk, su, own, ow, tr, xe, al, fl, upd fA d (fC e), upd fC d (fC e), upd fT d 0, upd fP d 0, upd fB d (nI b'), upd fH d (nI h'))) : wpX_execute post (nI nC, nI nT, nI nS, nI nD, nI nB, nI nK, ls, rr, rc, sp, nI d, L, op, kk, su, own, ow, tr, xe, al, fl, fA, fC, fT, fP, fB, fH) (nI e) (nI i) := by
  unfold wpX_execute
  dsimp only
  rw [nI_clamp (show i < 2 ^ 31 by omega), nI_clamp (show e < 2 ^ 31 by omega), ks, eh, nI_clamp (show h < 2 ^ 31 by omega)]
  have v16 : vp_in (nI e) 16 := vp_in_nI he (by omega)
  have v8 : vp_in (nI h) 8 := vp_in_nI (by omega) (by omega)
  exact ⟨vp_in_nI hi (by omega), nm_e ⟨vp_in_nI hi (by omega), nm_r ho (br_f (by decide) (br_f (by decide) (br_f (by decide) (br_f (by decide) (br_f (by decide) (br_f (by decide) (br_f (by decide) (br_f (by decide) (br_f (by decide) (br_t rfl ⟨v16, v16, v8, tx_send_p hC hS hB hD hF hU hs hx q p⟩))))))))))⟩⟩
/-- a turn that makes a step: what execute gives, the turn gives -/
theorem tx_act_x {nC nT nS nD nB nK : Nat} {ls rr rc : Int32} {L op kk su own ow tr xe al fl fA fC fT fP fB fH : Nat → Int32} {e s b p l : Nat} {post : SX → Prop} {u' : SX} (he : e < 16) (hb : b < 16) (hl : l ≤ 16) (hp : p < l) (hs : s < 1000) (eB : fB e = nI b) (eP : fP e = nI p) (eL : L b = nI l) (x : ∀ ψ : SX → Prop, ψ u' → wpX_execute ψ (nI nC, nI nT, nI nS, nI nD, nI nB, nI nK, ls, rr, rc, nI (s + 1), nI (e + 1), L, op, kk, su, own, ow, tr, xe, al, fl, fA, fC, fT, upd fP e (nI (p + 1)), fB, fH) (nI e) (nI (b * 16 + p))) (q : post u') : wpX_actOnTopFrame post (nI nC, nI nT, nI nS, nI nD, nI nB, nI nK, ls, rr, rc, nI s, nI (e + 1), L, op, kk, su, own, ow, tr, xe, al, fl, fA, fC, fT, fP, fB, fH) := by
  unfold wpX_actOnTopFrame
  dsimp only
  have v16 : vp_in (nI e) 16 := vp_in_nI he (by omega)
  refine nm_r (nI_pred e) ?_
  rw [nI_clamp (show e < 2 ^ 31 by omega)]
  refine ⟨v16, nm_r eB ⟨v16, nm_r eP ⟨vp_in_nI hb (by omega), ?_⟩⟩⟩
  rw [nI_clamp (show b < 2 ^ 31 by omega), eL, tf_ix, nI_1 p]
  exact pk_eq p l (fun z => absurd z (by omega)) (fun _ => pk_eq s 1000 (fun z => absurd z (by omega)) (fun _ => nm_r (nI_1 s) ⟨v16, nm_e (x _ q)⟩))
theorem tx_act_t {nC nT nS nD nB nK : Nat} {ls rr rc : Int32} {L op kk su own ow tr xe al fl fA fC fT fP fB fH : Nat → Int32} {e b p l : Nat} {post : SX → Prop} (he : e < 16) (hb : b < 16) (hl : l ≤ 16) (hp : p < l) (eB : fB e = nI b) (eP : fP e = nI p) (eL : L b = nI l) (q : post (nI nC, nI nT, nI nS, nI nD, nI nB, nI nK, 5, 0, rc, nI 1000, 0, L, op, kk, su, own, ow, tr, xe, al, fl, fA, fC, fT, fP, fB, fH)) : wpX_actOnTopFrame post (nI nC, nI nT, nI nS, nI nD, nI nB, nI nK, ls, rr, rc, nI 1000, nI (e + 1), L, op, kk, su, own, ow, tr, xe, al, fl, fA, fC, fT, fP, fB, fH) := by
  unfold wpX_actOnTopFrame
  dsimp only
  have v16 : vp_in (nI e) 16 := vp_in_nI he (by omega)
  refine nm_r (nI_pred e) ?_
  rw [nI_clamp (show e < 2 ^ 31 by omega)]
  refine ⟨v16, nm_r eB ⟨v16, nm_r eP ⟨vp_in_nI hb (by omega), ?_⟩⟩⟩
  rw [nI_clamp (show b < 2 ^ 31 by omega), eL]
  exact pk_eq p l (fun z => absurd z (by omega)) (fun _ => br_t rfl q)
theorem tx_act_r {nC nT nS nD nB nK : Nat} {ls rr rc sp : Int32} {L op kk su own ow tr xe al fl fA fC fT fP fB fH : Nat → Int32} {e b l : Nat} {post : SX → Prop} {u' : SX} (he : e < 16) (hb : b < 16) (eB : fB e = nI b) (eP : fP e = nI l) (eL : L b = nI l) (x : ∀ ψ : SX → Prop, ψ u' → wpX_returnFromTopFrame ψ (nI nC, nI nT, nI nS, nI nD, nI nB, nI nK, ls, rr, rc, sp, nI (e + 1), L, op, kk, su, own, ow, tr, xe, al, fl, fA, fC, fT, fP, fB, fH)) (q : post u') : wpX_actOnTopFrame post (nI nC, nI nT, nI nS, nI nD, nI nB, nI nK, ls, rr, rc, sp, nI (e + 1), L, op, kk, su, own, ow, tr, xe, al, fl, fA, fC, fT, fP, fB, fH) := by
  unfold wpX_actOnTopFrame
  dsimp only
  have v16 : vp_in (nI e) 16 := vp_in_nI he (by omega)
  refine nm_r (nI_pred e) ?_
  rw [nI_clamp (show e < 2 ^ 31 by omega)]
  refine ⟨v16, nm_r eB ⟨v16, nm_r eP ⟨vp_in_nI hb (by omega), ?_⟩⟩⟩
  rw [nI_clamp (show b < 2 ^ 31 by omega), eL]
  exact br_t rfl (x _ q)
end
section
/-! one turn of a run: the reference -/
theorem ty_ret_0 {nC nT nS nD nB nK : Nat} {rs st : Int32} {op kk L su own ow tr ex al tp fB fH fA fC fT fP : Nat → Int32} {post : Int32 → SY → Prop} {x : Int32} (p : post 1 (nI nC, nI nT, nI nS, nI nD, nI nB, nI nK, 0, x, st, op, kk, L, su, own, ow, tr, ex, al, tp, fB, fH, fA, fC, fT, fP)) : wpY_ret post (nI nC, nI nT, nI nS, nI nD, nI nB, nI nK, nI (0 + 1), rs, st, op, kk, L, su, own, ow, tr, ex, al, tp, fB, fH, fA, fC, fT, fP) x := by
  unfold wpY_ret
  exact nm_r (nI_pred 0) (br_f (by decide) p)
theorem ty_ret_s {nC nT nS nD nB nK : Nat} {rs st : Int32} {op kk L su own ow tr ex al tp fB fH fA fC fT fP : Nat → Int32} {e : Nat} {post : Int32 → SY → Prop} {x : Int32} (he : e < 15) (p : post 0 (nI nC, nI nT, nI nS, nI nD, nI nB, nI nK, nI (e + 1), rs, st, op, kk, L, su, own, ow, tr, ex, al, tp, fB, fH, fA, upd fC e x, fT, fP)) : wpY_ret post (nI nC, nI nT, nI nS, nI nD, nI nB, nI nK, nI (e + 1 + 1), rs, st, op, kk, L, su, own, ow, tr, ex, al, tp, fB, fH, fA, fC, fT, fP) x := by
  unfold wpY_ret
  refine nm_r (nI_pred (e + 1)) (br_t (nI_lt (a := 0) (by omega) (by omega)) ?_)
  rw [nI_pred e, nI_clamp (show e < 2 ^ 31 by omega)]
  exact ⟨vp_in_nI (by omega) (by omega), nm_e p⟩
theorem ty_end_1 {nC nT nS nD nB nK : Nat} {dp rs st : Int32} {op kk L su own ow tr ex al tp fB fH fA fC fT fP : Nat → Int32} {post : Int32 → SY → Prop} {c x4 : Int32} {n t : Nat} (ht : t < 4000) (p : post rs (nI nC, nI nT, nI nS, nI nD, nI nB, nI nK, 0, rs, 1, op, kk, L, su, own, ow, tr, ex, al, tp, fB, fH, fA, fC, fT, fP)) : wY_run_47 post c (n + 1) x4 1 (nI t) (nI nC) (nI nT) (nI nS) (nI nD) (nI nB) (nI nK) dp rs st op kk L su own ow tr ex al tp fB fH fA fC fT fP := br_f (nI_ge (b := 4000) ht (by omega)) (br_f (by decide) (br_f (by decide) (br_t rfl p)))
theorem ty_end_z {nC nT nS nD nB nK : Nat} {dp rs st : Int32} {op kk L su own ow tr ex al tp fB fH fA fC fT fP : Nat → Int32} {post : Int32 → SY → Prop} {c x4 z : Int32} {n t : Nat} (ht : t < 4000) (h0 : ¬ z = 0) (h1 : ¬ z = 1) (p : post 0 (nI nC, nI nT, nI nS, nI nD, nI nB, nI nK, 0, rs, z, op, kk, L, su, own, ow, tr, ex, al, tp, fB, fH, fA, fC, fT, fP)) : wY_run_47 post c (n + 1) x4 z (nI t) (nI nC) (nI nT) (nI nS) (nI nD) (nI nB) (nI nK) dp rs st op kk L su own ow tr ex al tp fB fH fA fC fT fP := br_f (nI_ge (b := 4000) ht (by omega)) (br_f h0 (br_f h0 (br_f h1 p)))
theorem tx_end {nC nT nS nD nB nK : Nat} {ls rr rc sp : Int32} {L op kk su own ow tr xe al fl fA fC fT fP fB fH : Nat → Int32} {post : Int32 → SX → Prop} {n t : Nat} (ht : t < 1000000) (p : post rr (nI nC, nI nT, nI nS, nI nD, nI nB, nI nK, ls, rr, rc, sp, 0, L, op, kk, su, own, ow, tr, xe, al, fl, fA, fC, fT, fP, fB, fH)) : wX_run_43 post (n + 1) (nI t) (nI nC) (nI nT) (nI nS) (nI nD) (nI nB) (nI nK) ls rr rc sp 0 L op kk su own ow tr xe al fl fA fC fT fP fB fH := br_f (nI_ge (b := 1000000) ht (by omega)) (br_t (by decide) p)
theorem ty_st_0 {nC nT nS nD nB nK : Nat} {rs st : Int32} {op kk L su own ow tr ex al tp fB fH fA fC fT fP : Nat → Int32} {c : Int32} {e s b p l n t : Nat} {post : Int32 → SY → Prop} (he : e < 16) (hb : b < 16) (hl : l ≤ 16) (hp : p < l) (hs : s < 1000) (ht : t < 4000) (eB : fB e = nI b) (eP : fP e = nI p) (eL : L b = nI l) (ho : op (b * 16 + p) = nI 0) (q : wY_run_47 post c n (nI (s + 1)) 0 (nI (t + 1)) (nI nC) (nI nT) (nI nS) (nI nD) (nI nB) (nI nK) (nI (e + 1)) rs st op kk L su own ow tr ex al tp fB fH fA (upd fC e (fA e)) fT (upd fP e (nI (p + 1)))) : wY_run_47 post c (n + 1) (nI s) 0 (nI t) (nI nC) (nI nT) (nI nS) (nI nD) (nI nB) (nI nK) (nI (e + 1)) rs st op kk L su own ow tr ex al tp fB fH fA fC fT fP := by
  have v16 : vp_in (nI e) 16 := vp_in_nI he (by omega)
  have v256 : vp_in (nI (b * 16 + p)) 256 := vp_in_nI (by omega) (by omega)
  refine br_f (nI_ge (b := 4000) ht (by omega)) (br_t rfl (nm_r (nI_pred e) ?_))
  rw [nI_clamp (show e < 2 ^ 31 by omega)]
  refine ⟨v16, nm_r eB ⟨v16, vp_in_nI hb (by omega), ?_⟩⟩
  rw [nI_clamp (show b < 2 ^ 31 by omega), eP, eL, tf_ix b p, nI_1 p]
  refine br_t (nI_lt hp (by omega)) (pk_eq s 1000 (fun z => absurd z (by omega)) (fun _ => nm_r (nI_1 s) ⟨v16, nm_e ⟨v16, v16, nm_e ?_⟩⟩))
  rw [nI_clamp (show b * 16 + p < 2 ^ 31 by omega)]
  exact ⟨v256, nm_r ho ⟨v256, nm_e (br_t rfl ⟨v16, v16, nm_e (nm_r (nI_1 t) q)⟩)⟩⟩
theorem ty_st_1 {nC nT nS nD nB nK : Nat} {rs st : Int32} {op kk L su own ow tr ex al tp fB fH fA fC fT fP : Nat → Int32} {c : Int32} {e s b p l n t : Nat} {post : Int32 → SY → Prop} (he : e < 16) (hb : b < 16) (hl : l ≤ 16) (hp : p < l) (hs : s < 1000) (ht : t < 4000) (eB : fB e = nI b) (eP : fP e = nI p) (eL : L b = nI l) (ho : op (b * 16 + p) = nI 1) (q : wY_run_47 post c n (nI (s + 1)) 0 (nI (t + 1)) (nI nC) (nI nT) (nI nS) (nI nD) (nI nB) (nI nK) (nI (e + 1)) rs st op kk L su own ow tr ex al tp fB fH fA (upd fC e (kk (b * 16 + p))) fT (upd fP e (nI (p + 1)))) : wY_run_47 post c (n + 1) (nI s) 0 (nI t) (nI nC) (nI nT) (nI nS) (nI nD) (nI nB) (nI nK) (nI (e + 1)) rs st op kk L su own ow tr ex al tp fB fH fA fC fT fP := by
  have v16 : vp_in (nI e) 16 := vp_in_nI he (by omega)
  have v256 : vp_in (nI (b * 16 + p)) 256 := vp_in_nI (by omega) (by omega)
  refine br_f (nI_ge (b := 4000) ht (by omega)) (br_t rfl (nm_r (nI_pred e) ?_))
  rw [nI_clamp (show e < 2 ^ 31 by omega)]
  refine ⟨v16, nm_r eB ⟨v16, vp_in_nI hb (by omega), ?_⟩⟩
  rw [nI_clamp (show b < 2 ^ 31 by omega), eP, eL, tf_ix b p, nI_1 p]
  refine br_t (nI_lt hp (by omega)) (pk_eq s 1000 (fun z => absurd z (by omega)) (fun _ => nm_r (nI_1 s) ⟨v16, nm_e ⟨v16, v16, nm_e ?_⟩⟩))
  rw [nI_clamp (show b * 16 + p < 2 ^ 31 by omega)]
  exact ⟨v256, nm_r ho ⟨v256, nm_e (br_f (by decide) (br_t rfl ⟨v16, nm_e (nm_r (nI_1 t) q)⟩))⟩⟩
theorem ty_st_2 {nC nT nS nD nB nK : Nat} {rs st : Int32} {op kk L su own ow tr ex al tp fB fH fA fC fT fP : Nat → Int32} {c : Int32} {e s b p l n t : Nat} {post : Int32 → SY → Prop} (he : e < 16) (hb : b < 16) (hl : l ≤ 16) (hp : p < l) (hs : s < 1000) (ht : t < 4000) (eB : fB e = nI b) (eP : fP e = nI p) (eL : L b = nI l) (ho : op (b * 16 + p) = nI 2) (q : wY_run_47 post c n (nI (s + 1)) 0 (nI (t + 1)) (nI nC) (nI nT) (nI nS) (nI nD) (nI nB) (nI nK) (nI (e + 1)) rs st op kk L su own ow tr ex al tp fB fH fA (upd fC e (fC e + kk (b * 16 + p))) fT (upd fP e (nI (p + 1)))) : wY_run_47 post c (n + 1) (nI s) 0 (nI t) (nI nC) (nI nT) (nI nS) (nI nD) (nI nB) (nI nK) (nI (e + 1)) rs st op kk L su own ow tr ex al tp fB fH fA fC fT fP := by
  have v16 : vp_in (nI e) 16 := vp_in_nI he (by omega)
  have v256 : vp_in (nI (b * 16 + p)) 256 := vp_in_nI (by omega) (by omega)
  refine br_f (nI_ge (b := 4000) ht (by omega)) (br_t rfl (nm_r (nI_pred e) ?_))
  rw [nI_clamp (show e < 2 ^ 31 by omega)]
  refine ⟨v16, nm_r eB ⟨v16, vp_in_nI hb (by omega), ?_⟩⟩
  rw [nI_clamp (show b < 2 ^ 31 by omega), eP, eL, tf_ix b p, nI_1 p]
  refine br_t (nI_lt hp (by omega)) (pk_eq s 1000 (fun z => absurd z (by omega)) (fun _ => nm_r (nI_1 s) ⟨v16, nm_e ⟨v16, v16, nm_e ?_⟩⟩))
  rw [nI_clamp (show b * 16 + p < 2 ^ 31 by omega)]
  exact ⟨v256, nm_r ho ⟨v256, nm_e (br_f (by decide) (br_f (by decide) (br_t rfl ⟨v16, v16, nm_e (nm_r (nI_1 t) q)⟩)))⟩⟩
theorem ty_st_3 {nC nT nS nD nB nK : Nat} {rs st : Int32} {op kk L su own ow tr ex al tp fB fH fA fC fT fP : Nat → Int32} {c : Int32} {e s b p l n t : Nat} {post : Int32 → SY → Prop} (he : e < 16) (hb : b < 16) (hl : l ≤ 16) (hp : p < l) (hs : s < 1000) (ht : t < 4000) (eB : fB e = nI b) (eP : fP e = nI p) (eL : L b = nI l) (ho : op (b * 16 + p) = nI 3) (q : wY_run_47 post c n (nI (s + 1)) 0 (nI (t + 1)) (nI nC) (nI nT) (nI nS) (nI nD) (nI nB) (nI nK) (nI (e + 1)) rs st op kk L su own ow tr ex al tp fB fH fA (upd fC e (fC e * kk (b * 16 + p))) fT (upd fP e (nI (p + 1)))) : wY_run_47 post c (n + 1) (nI s) 0 (nI t) (nI nC) (nI nT) (nI nS) (nI nD) (nI nB) (nI nK) (nI (e + 1)) rs st op kk L su own ow tr ex al tp fB fH fA fC fT fP := by
  have v16 : vp_in (nI e) 16 := vp_in_nI he (by omega)
  have v256 : vp_in (nI (b * 16 + p)) 256 := vp_in_nI (by omega) (by omega)
  refine br_f (nI_ge (b := 4000) ht (by omega)) (br_t rfl (nm_r (nI_pred e) ?_))
  rw [nI_clamp (show e < 2 ^ 31 by omega)]
  refine ⟨v16, nm_r eB ⟨v16, vp_in_nI hb (by omega), ?_⟩⟩
  rw [nI_clamp (show b < 2 ^ 31 by omega), eP, eL, tf_ix b p, nI_1 p]
  refine br_t (nI_lt hp (by omega)) (pk_eq s 1000 (fun z => absurd z (by omega)) (fun _ => nm_r (nI_1 s) ⟨v16, nm_e ⟨v16, v16, nm_e ?_⟩⟩))
  rw [nI_clamp (show b * 16 + p < 2 ^ 31 by omega)]
  exact ⟨v256, nm_r ho ⟨v256, nm_e (br_f (by decide) (br_f (by decide) (br_f (by decide) (br_t rfl ⟨v16, v16, nm_e (nm_r (nI_1 t) q)⟩))))⟩⟩
theorem ty_st_4 {nC nT nS nD nB nK : Nat} {rs st : Int32} {op kk L su own ow tr ex al tp fB fH fA fC fT fP : Nat → Int32} {c : Int32} {e s b p l n t : Nat} {post : Int32 → SY → Prop} (he : e < 16) (hb : b < 16) (hl : l ≤ 16) (hp : p < l) (hs : s < 1000) (ht : t < 4000) (eB : fB e = nI b) (eP : fP e = nI p) (eL : L b = nI l) (ho : op (b * 16 + p) = nI 4) (q : wY_run_47 post c n (nI (s + 1)) 0 (nI (t + 1)) (nI nC) (nI nT) (nI nS) (nI nD) (nI nB) (nI nK) (nI (e + 1)) rs st op kk L su own ow tr ex al tp fB fH fA fC (upd fT e (fC e)) (upd fP e (nI (p + 1)))) : wY_run_47 post c (n + 1) (nI s) 0 (nI t) (nI nC) (nI nT) (nI nS) (nI nD) (nI nB) (nI nK) (nI (e + 1)) rs st op kk L su own ow tr ex al tp fB fH fA fC fT fP := by
  have v16 : vp_in (nI e) 16 := vp_in_nI he (by omega)
  have v256 : vp_in (nI (b * 16 + p)) 256 := vp_in_nI (by omega) (by omega)
  refine br_f (nI_ge (b := 4000) ht (by omega)) (br_t rfl (nm_r (nI_pred e) ?_))
  rw [nI_clamp (show e < 2 ^ 31 by omega)]
  refine ⟨v16, nm_r eB ⟨v16, vp_in_nI hb (by omega), ?_⟩⟩
  rw [nI_clamp (show b < 2 ^ 31 by omega), eP, eL, tf_ix b p, nI_1 p]
  refine br_t (nI_lt hp (by omega)) (pk_eq s 1000 (fun z => absurd z (by omega)) (fun _ => nm_r (nI_1 s) ⟨v16, nm_e ⟨v16, v16, nm_e ?_⟩⟩))
  rw [nI_clamp (show b * 16 + p < 2 ^ 31 by omega)]
  exact ⟨v256, nm_r ho ⟨v256, nm_e (br_f (by decide) (br_f (by decide) (br_f (by decide) (br_f (by decide) (br_t rfl ⟨v16, v16, nm_e (nm_r (nI_1 t) q)⟩)))))⟩⟩
theorem ty_st_5 {nC nT nS nD nB nK : Nat} {rs st : Int32} {op kk L su own ow tr ex al tp fB fH fA fC fT fP : Nat → Int32} {c : Int32} {e s b p l n t : Nat} {post : Int32 → SY → Prop} (he : e < 16) (hb : b < 16) (hl : l ≤ 16) (hp : p < l) (hs : s < 1000) (ht : t < 4000) (eB : fB e = nI b) (eP : fP e = nI p) (eL : L b = nI l) (ho : op (b * 16 + p) = nI 5) (q : wY_run_47 post c n (nI (s + 1)) 0 (nI (t + 1)) (nI nC) (nI nT) (nI nS) (nI nD) (nI nB) (nI nK) (nI (e + 1)) rs st op kk L su own ow tr ex al tp fB fH fA (upd fC e (fC e + fT e)) fT (upd fP e (nI (p + 1)))) : wY_run_47 post c (n + 1) (nI s) 0 (nI t) (nI nC) (nI nT) (nI nS) (nI nD) (nI nB) (nI nK) (nI (e + 1)) rs st op kk L su own ow tr ex al tp fB fH fA fC fT fP := by
  have v16 : vp_in (nI e) 16 := vp_in_nI he (by omega)
  have v256 : vp_in (nI (b * 16 + p)) 256 := vp_in_nI (by omega) (by omega)
  refine br_f (nI_ge (b := 4000) ht (by omega)) (br_t rfl (nm_r (nI_pred e) ?_))
  rw [nI_clamp (show e < 2 ^ 31 by omega)]
  refine ⟨v16, nm_r eB ⟨v16, vp_in_nI hb (by omega), ?_⟩⟩
  rw [nI_clamp (show b < 2 ^ 31 by omega), eP, eL, tf_ix b p, nI_1 p]
  refine br_t (nI_lt hp (by omega)) (pk_eq s 1000 (fun z => absurd z (by omega)) (fun _ => nm_r (nI_1 s) ⟨v16, nm_e ⟨v16, v16, nm_e ?_⟩⟩))
  rw [nI_clamp (show b * 16 + p < 2 ^ 31 by omega)]
  exact ⟨v256, nm_r ho ⟨v256, nm_e (br_f (by decide) (br_f (by decide) (br_f (by decide) (br_f (by decide) (br_f (by decide) (br_t rfl ⟨v16, v16, v16, nm_e (nm_r (nI_1 t) q)⟩))))))⟩⟩
theorem ty_st_6e {nC nT nS nD nB nK : Nat} {rs st : Int32} {op kk L su own ow tr ex al tp fB fH fA fC fT fP : Nat → Int32} {c : Int32} {e s b p l n t : Nat} {post : Int32 → SY → Prop} (he : e < 16) (hb : b < 16) (hl : l ≤ 16) (hp : p < l) (hs : s < 1000) (ht : t < 4000) (eB : fB e = nI b) (eP : fP e = nI p) (eL : L b = nI l) {g : Nat} {z : Int32} (hC : nC ≤ 8) (hS : nS ≤ 16) (hT : nT ≤ 8) (hK : nK ≤ 16) (hB : nB ≤ 16) (hD : nD ≤ 16) (hV : tf_CV nT nS nK ow tr al) (hU : tf_SV nC su) (ho : op (b * 16 + p) = nI 6) (hg : g < nS) (ks : kk (b * 16 + p) = nI g) (hx : tf_cl nC c) (hd : e + 1 ≤ nD) (r : tf_SE nC nB nD (e + 1) su (fun c => tf_PR own ow tr ex al nK c g) (c) z) (q : ∀ tp : Nat → Int32, wY_run_47 post c n (nI (s + 1)) z (nI (t + 1)) (nI nC) (nI nT) (nI nS) (nI nD) (nI nB) (nI nK) (nI (e + 1)) rs st op kk L su own ow tr ex al tp fB fH fA fC fT (upd fP e (nI (p + 1)))) : wY_run_47 post c (n + 1) (nI s) 0 (nI t) (nI nC) (nI nT) (nI nS) (nI nD) (nI nB) (nI nK) (nI (e + 1)) rs st op kk L su own ow tr ex al tp fB fH fA fC fT fP := by
  have v16 : vp_in (nI e) 16 := vp_in_nI he (by omega)
  have v256 : vp_in (nI (b * 16 + p)) 256 := vp_in_nI (by omega) (by omega)
  refine br_f (nI_ge (b := 4000) ht (by omega)) (br_t rfl (nm_r (nI_pred e) ?_))
  rw [nI_clamp (show e < 2 ^ 31 by omega)]
  refine ⟨v16, nm_r eB ⟨v16, vp_in_nI hb (by omega), ?_⟩⟩
  rw [nI_clamp (show b < 2 ^ 31 by omega), eP, eL, tf_ix b p, nI_1 p]
  refine br_t (nI_lt hp (by omega)) (pk_eq s 1000 (fun z => absurd z (by omega)) (fun _ => nm_r (nI_1 s) ⟨v16, nm_e ⟨v16, v16, nm_e ?_⟩⟩))
  rw [nI_clamp (show b * 16 + p < 2 ^ 31 by omega)]
  exact ⟨v256, nm_r ho ⟨v256, nm_r ks (br_f (by decide) (br_f (by decide) (br_f (by decide) (br_f (by decide) (br_f (by decide) (br_f (by decide) (br_t rfl ⟨v16, ty_send_e hC hS hT hK hB hD hV hU hg hx hd r (fun g => nm_r (nI_1 t) (q g))⟩)))))))⟩⟩
theorem ty_st_6p {nC nT nS nD nB nK : Nat} {rs st : Int32} {op kk L su own ow tr ex al tp fB fH fA fC fT fP : Nat → Int32} {c : Int32} {e s b p l n t : Nat} {post : Int32 → SY → Prop} (he : e < 16) (hb : b < 16) (hl : l ≤ 16) (hp : p < l) (hs : s < 1000) (ht : t < 4000) (eB : fB e = nI b) (eP : fP e = nI p) (eL : L b = nI l) {g b' h' : Nat} (hC : nC ≤ 8) (hS : nS ≤ 16) (hT : nT ≤ 8) (hK : nK ≤ 16) (hB : nB ≤ 16) (hD : nD ≤ 16) (hV : tf_CV nT nS nK ow tr al) (hU : tf_SV nC su) (ho : op (b * 16 + p) = nI 6) (hg : g < nS) (ks : kk (b * 16 + p) = nI g) (hx : tf_cl nC c) (r : tf_SP nC nB nD (e + 1) su (fun c => tf_PR own ow tr ex al nK c g) (c) b' h') (q : ∀ tp : Nat → Int32, wY_run_47 post c n (nI (s + 1)) 0 (nI (t + 1)) (nI nC) (nI nT) (nI nS) (nI nD) (nI nB) (nI nK) (nI (e + 1 + 1)) rs st op kk L su own ow tr ex al tp (upd fB (e + 1) (nI b')) (upd fH (e + 1) (nI h')) (upd fA (e + 1) (fC e)) (upd fC (e + 1) (fC e)) (upd fT (e + 1) 0) (upd (upd fP e (nI (p + 1))) (e + 1) 0)) : wY_run_47 post c (n + 1) (nI s) 0 (nI t) (nI nC) (nI nT) (nI nS) (nI nD) (nI nB) (nI nK) (nI (e + 1)) rs st op kk L su own ow tr ex al tp fB fH fA fC fT fP := by
  have v16 : vp_in (nI e) 16 := vp_in_nI he (by omega)
  have v256 : vp_in (nI (b * 16 + p)) 256 := vp_in_nI (by omega) (by omega)
  refine br_f (nI_ge (b := 4000) ht (by omega)) (br_t rfl (nm_r (nI_pred e) ?_))
  rw [nI_clamp (show e < 2 ^ 31 by omega)]
  refine ⟨v16, nm_r eB ⟨v16, vp_in_nI hb (by omega), ?_⟩⟩
  rw [nI_clamp (show b < 2 ^ 31 by omega), eP, eL, tf_ix b p, nI_1 p]
  refine br_t (nI_lt hp (by omega)) (pk_eq s 1000 (fun z => absurd z (by omega)) (fun _ => nm_r (nI_1 s) ⟨v16, nm_e ⟨v16, v16, nm_e ?_⟩⟩))
  rw [nI_clamp (show b * 16 + p < 2 ^ 31 by omega)]
  exact ⟨v256, nm_r ho ⟨v256, nm_r ks (br_f (by decide) (br_f (by decide) (br_f (by decide) (br_f (by decide) (br_f (by decide) (br_f (by decide) (br_t rfl ⟨v16, ty_send_p hC hS hT hK hB hD hV hU hg hx r (fun g => nm_r (nI_1 t) (q g))⟩)))))))⟩⟩
theorem ty_st_7e {nC nT nS nD nB nK : Nat} {rs st : Int32} {op kk L su own ow tr ex al tp fB fH fA fC fT fP : Nat → Int32} {c : Int32} {e s b p l n t : Nat} {post : Int32 → SY → Prop} (he : e < 16) (hb : b < 16) (hl : l ≤ 16) (hp : p < l) (hs : s < 1000) (ht : t < 4000) (eB : fB e = nI b) (eP : fP e = nI p) (eL : L b = nI l) {h : Nat} {g : Nat} {z : Int32} (hC : nC ≤ 8) (hS : nS ≤ 16) (hT : nT ≤ 8) (hK : nK ≤ 16) (hB : nB ≤ 16) (hD : nD ≤ 16) (hV : tf_CV nT nS nK ow tr al) (hU : tf_SV nC su) (ho : op (b * 16 + p) = nI 7) (hg : g < nS) (ks : kk (b * 16 + p) = nI g) (hh : h < nC) (eh : fH e = nI h) (hx : tf_cl nC (su h)) (hd : e + 1 ≤ nD) (r : tf_SE nC nB nD (e + 1) su (fun c => tf_PR own ow tr ex al nK c g) (su h) z) (q : ∀ tp : Nat → Int32, wY_run_47 post c n (nI (s + 1)) z (nI (t + 1)) (nI nC) (nI nT) (nI nS) (nI nD) (nI nB) (nI nK) (nI (e + 1)) rs st op kk L su own ow tr ex al tp fB fH fA fC fT (upd fP e (nI (p + 1)))) : wY_run_47 post c (n + 1) (nI s) 0 (nI t) (nI nC) (nI nT) (nI nS) (nI nD) (nI nB) (nI nK) (nI (e + 1)) rs st op kk L su own ow tr ex al tp fB fH fA fC fT fP := by
  have v16 : vp_in (nI e) 16 := vp_in_nI he (by omega)
  have v256 : vp_in (nI (b * 16 + p)) 256 := vp_in_nI (by omega) (by omega)
  refine br_f (nI_ge (b := 4000) ht (by omega)) (br_t rfl (nm_r (nI_pred e) ?_))
  rw [nI_clamp (show e < 2 ^ 31 by omega)]
  refine ⟨v16, nm_r eB ⟨v16, vp_in_nI hb (by omega), ?_⟩⟩
  rw [nI_clamp (show b < 2 ^ 31 by omega), eP, eL, tf_ix b p, nI_1 p]
  refine br_t (nI_lt hp (by omega)) (pk_eq s 1000 (fun z => absurd z (by omega)) (fun _ => nm_r (nI_1 s) ⟨v16, nm_e ⟨v16, v16, nm_e ?_⟩⟩))
  rw [nI_clamp (show b * 16 + p < 2 ^ 31 by omega), eh, nI_clamp (show h < 2 ^ 31 by omega)]
  have v8 : vp_in (nI h) 8 := vp_in_nI (by omega) (by omega)
  exact ⟨v256, nm_r ho ⟨v256, nm_r ks (br_f (by decide) (br_f (by decide) (br_f (by decide) (br_f (by decide) (br_f (by decide) (br_f (by decide) (br_f (by decide) (br_t rfl ⟨v16, v16, v8, ty_send_e hC hS hT hK hB hD hV hU hg hx hd r (fun g => nm_r (nI_1 t) (q g))⟩))))))))⟩⟩
theorem ty_st_7p {nC nT nS nD nB nK : Nat} {rs st : Int32} {op kk L su own ow tr ex al tp fB fH fA fC fT fP : Nat → Int32} {c : Int32} {e s b p l n t : Nat} {post : Int32 → SY → Prop} (he : e < 16) (hb : b < 16) (hl : l ≤ 16) (hp : p < l) (hs : s < 1000) (ht : t < 4000) (eB : fB e = nI b) (eP : fP e = nI p) (eL : L b = nI l) {h : Nat} {g b' h' : Nat} (hC : nC ≤ 8) (hS : nS ≤ 16) (hT : nT ≤ 8) (hK : nK ≤ 16) (hB : nB ≤ 16) (hD : nD ≤ 16) (hV : tf_CV nT nS nK ow tr al) (hU : tf_SV nC su) (ho : op (b * 16 + p) = nI 7) (hg : g < nS) (ks : kk (b * 16 + p) = nI g) (hh : h < nC) (eh : fH e = nI h) (hx : tf_cl nC (su h)) (r : tf_SP nC nB nD (e + 1) su (fun c => tf_PR own ow tr ex al nK c g) (su h) b' h') (q : ∀ tp : Nat → Int32, wY_run_47 post c n (nI (s + 1)) 0 (nI (t + 1)) (nI nC) (nI nT) (nI nS) (nI nD) (nI nB) (nI nK) (nI (e + 1 + 1)) rs st op kk L su own ow tr ex al tp (upd fB (e + 1) (nI b')) (upd fH (e + 1) (nI h')) (upd fA (e + 1) (fC e)) (upd fC (e + 1) (fC e)) (upd fT (e + 1) 0) (upd (upd fP e (nI (p + 1))) (e + 1) 0)) : wY_run_47 post c (n + 1) (nI s) 0 (nI t) (nI nC) (nI nT) (nI nS) (nI nD) (nI nB) (nI nK) (nI (e + 1)) rs st op kk L su own ow tr ex al tp fB fH fA fC fT fP := by
  have v16 : vp_in (nI e) 16 := vp_in_nI he (by omega)
  have v256 : vp_in (nI (b * 16 + p)) 256 := vp_in_nI (by omega) (by omega)
  refine br_f (nI_ge (b := 4000) ht (by omega)) (br_t rfl (nm_r (nI_pred e) ?_))
  rw [nI_clamp (show e < 2 ^ 31 by omega)]
  refine ⟨v16, nm_r eB ⟨v16, vp_in_nI hb (by omega), ?_⟩⟩
  rw [nI_clamp (show b < 2 ^ 31 by omega), eP, eL, tf_ix b p, nI_1 p]
  refine br_t (nI_lt hp (by omega)) (pk_eq s 1000 (fun z => absurd z (by omega)) (fun _ => nm_r (nI_1 s) ⟨v16, nm_e ⟨v16, v16, nm_e ?_⟩⟩))
  rw [nI_clamp (show b * 16 + p < 2 ^ 31 by omega), eh, nI_clamp (show h < 2 ^ 31 by omega)]
  have v8 : vp_in (nI h) 8 := vp_in_nI (by omega) (by omega)
  exact ⟨v256, nm_r ho ⟨v256, nm_r ks (br_f (by decide) (br_f (by decide) (br_f (by decide) (br_f (by decide) (br_f (by decide) (br_f (by decide) (br_f (by decide) (br_t rfl ⟨v16, v16, v8, ty_send_p hC hS hT hK hB hD hV hU hg hx r (fun g => nm_r (nI_1 t) (q g))⟩))))))))⟩⟩
theorem ty_st_8r {nC nT nS nD nB nK : Nat} {rs st : Int32} {op kk L su own ow tr ex al tp fB fH fA fC fT fP : Nat → Int32} {c : Int32} {e s b p l n t : Nat} {post : Int32 → SY → Prop} (he : e < 15) (hb : b < 16) (hl : l ≤ 16) (hp : p < l) (hs : s < 1000) (ht : t < 4000) (eB : fB (e + 1) = nI b) (eP : fP (e + 1) = nI p) (eL : L b = nI l) (ho : op (b * 16 + p) = nI 8) (q : wY_run_47 post c n (nI (s + 1)) 0 (nI (t + 1)) (nI nC) (nI nT) (nI nS) (nI nD) (nI nB) (nI nK) (nI (e + 1)) rs st op kk L su own ow tr ex al tp fB fH fA (upd fC e (fC (e + 1))) fT (upd fP (e + 1) (nI (p + 1)))) : wY_run_47 post c (n + 1) (nI s) 0 (nI t) (nI nC) (nI nT) (nI nS) (nI nD) (nI nB) (nI nK) (nI (e + 1 + 1)) rs st op kk L su own ow tr ex al tp fB fH fA fC fT fP := by
  have v16 : vp_in (nI (e + 1)) 16 := vp_in_nI (by omega) (by omega)
  have v256 : vp_in (nI (b * 16 + p)) 256 := vp_in_nI (by omega) (by omega)
  refine br_f (nI_ge (b := 4000) ht (by omega)) (br_t rfl (nm_r (nI_pred (e + 1)) ?_))
  rw [nI_clamp (show e + 1 < 2 ^ 31 by omega)]
  refine ⟨v16, nm_r eB ⟨v16, vp_in_nI hb (by omega), ?_⟩⟩
  rw [nI_clamp (show b < 2 ^ 31 by omega), eP, eL, tf_ix b p, nI_1 p]
  refine br_t (nI_lt hp (by omega)) (pk_eq s 1000 (fun z => absurd z (by omega)) (fun _ => nm_r (nI_1 s) ⟨v16, nm_e ⟨v16, v16, nm_e ?_⟩⟩))
  rw [nI_clamp (show b * 16 + p < 2 ^ 31 by omega)]
  exact ⟨v256, nm_r ho ⟨v256, nm_e (br_f (by decide) (br_f (by decide) (br_f (by decide) (br_f (by decide) (br_f (by decide) (br_f (by decide) (br_f (by decide) (br_f (by decide) (⟨v16, ty_ret_s he (nm_r (nI_1 t) q)⟩)))))))))⟩⟩
theorem ty_st_8e {nC nT nS nD nB nK : Nat} {rs st : Int32} {op kk L su own ow tr ex al tp fB fH fA fC fT fP : Nat → Int32} {c : Int32} {s b p l n t : Nat} {post : Int32 → SY → Prop} (hb : b < 16) (hl : l ≤ 16) (hp : p < l) (hs : s < 1000) (ht : t < 4000) (eB : fB 0 = nI b) (eP : fP 0 = nI p) (eL : L b = nI l) (ho : op (b * 16 + p) = nI 8) (q : wY_run_47 post c n (nI (s + 1)) 1 (nI (t + 1)) (nI nC) (nI nT) (nI nS) (nI nD) (nI nB) (nI nK) 0 (fC 0) st op kk L su own ow tr ex al tp fB fH fA fC fT (upd fP 0 (nI (p + 1)))) : wY_run_47 post c (n + 1) (nI s) 0 (nI t) (nI nC) (nI nT) (nI nS) (nI nD) (nI nB) (nI nK) (nI (0 + 1)) rs st op kk L su own ow tr ex al tp fB fH fA fC fT fP := by
  have v16 : vp_in (nI 0) 16 := vp_in_nI (by omega) (by omega)
  have v256 : vp_in (nI (b * 16 + p)) 256 := vp_in_nI (by omega) (by omega)
  refine br_f (nI_ge (b := 4000) ht (by omega)) (br_t rfl (nm_r (nI_pred 0) ?_))
  rw [nI_clamp (show 0 < 2 ^ 31 by omega)]
  refine ⟨v16, nm_r eB ⟨v16, vp_in_nI hb (by omega), ?_⟩⟩
  rw [nI_clamp (show b < 2 ^ 31 by omega), eP, eL, tf_ix b p, nI_1 p]
  refine br_t (nI_lt hp (by omega)) (pk_eq s 1000 (fun z => absurd z (by omega)) (fun _ => nm_r (nI_1 s) ⟨v16, nm_e ⟨v16, v16, nm_e ?_⟩⟩))
  rw [nI_clamp (show b * 16 + p < 2 ^ 31 by omega)]
  exact ⟨v256, nm_r ho ⟨v256, nm_e (br_f (by decide) (br_f (by decide) (br_f (by decide) (br_f (by decide) (br_f (by decide) (br_f (by decide) (br_f (by decide) (br_f (by decide) (⟨v16, ty_ret_0 (nm_r (nI_1 t) q)⟩)))))))))⟩⟩
theorem ty_st_t {nC nT nS nD nB nK : Nat} {rs st : Int32} {op kk L su own ow tr ex al tp fB fH fA fC fT fP : Nat → Int32} {c : Int32} {e b p l n t : Nat} {post : Int32 → SY → Prop} (he : e < 16) (hb : b < 16) (hl : l ≤ 16) (hp : p < l) (ht : t < 4000) (eB : fB e = nI b) (eP : fP e = nI p) (eL : L b = nI l) (q : wY_run_47 post c n (nI 1000) 5 (nI (t + 1)) (nI nC) (nI nT) (nI nS) (nI nD) (nI nB) (nI nK) (nI (e + 1)) rs st op kk L su own ow tr ex al tp fB fH fA fC fT fP) : wY_run_47 post c (n + 1) (nI 1000) 0 (nI t) (nI nC) (nI nT) (nI nS) (nI nD) (nI nB) (nI nK) (nI (e + 1)) rs st op kk L su own ow tr ex al tp fB fH fA fC fT fP := by
  have v16 : vp_in (nI e) 16 := vp_in_nI he (by omega)
  refine br_f (nI_ge (b := 4000) ht (by omega)) (br_t rfl (nm_r (nI_pred e) ?_))
  rw [nI_clamp (show e < 2 ^ 31 by omega)]
  refine ⟨v16, nm_r eB ⟨v16, vp_in_nI hb (by omega), ?_⟩⟩
  rw [nI_clamp (show b < 2 ^ 31 by omega), eP, eL]
  exact br_t (nI_lt hp (by omega)) (br_t rfl (nm_r (nI_1 t) q))
theorem ty_st_r {nC nT nS nD nB nK : Nat} {rs st : Int32} {op kk L su own ow tr ex al tp fB fH fA fC fT fP : Nat → Int32} {c x4 : Int32} {e b l n t : Nat} {post : Int32 → SY → Prop} (he : e < 15) (hb : b < 16) (ht : t < 4000) (eB : fB (e + 1) = nI b) (eP : fP (e + 1) = nI l) (eL : L b = nI l) (q : wY_run_47 post c n x4 0 (nI (t + 1)) (nI nC) (nI nT) (nI nS) (nI nD) (nI nB) (nI nK) (nI (e + 1)) rs st op kk L su own ow tr ex al tp fB fH fA (upd fC e (fC (e + 1))) fT fP) : wY_run_47 post c (n + 1) x4 0 (nI t) (nI nC) (nI nT) (nI nS) (nI nD) (nI nB) (nI nK) (nI (e + 1 + 1)) rs st op kk L su own ow tr ex al tp fB fH fA fC fT fP := by
  have v16 : vp_in (nI (e + 1)) 16 := vp_in_nI (by omega) (by omega)
  refine br_f (nI_ge (b := 4000) ht (by omega)) (br_t rfl (nm_r (nI_pred (e + 1)) ?_))
  rw [nI_clamp (show e + 1 < 2 ^ 31 by omega)]
  refine ⟨v16, nm_r eB ⟨v16, vp_in_nI hb (by omega), ?_⟩⟩
  rw [nI_clamp (show b < 2 ^ 31 by omega), eP, eL]
  exact br_f Int32.lt_irrefl ⟨v16, ty_ret_s he (nm_r (nI_1 t) q)⟩
theorem ty_st_e {nC nT nS nD nB nK : Nat} {rs st : Int32} {op kk L su own ow tr ex al tp fB fH fA fC fT fP : Nat → Int32} {c x4 : Int32} {b l n t : Nat} {post : Int32 → SY → Prop} (hb : b < 16) (ht : t < 4000) (eB : fB 0 = nI b) (eP : fP 0 = nI l) (eL : L b = nI l) (q : wY_run_47 post c n x4 1 (nI (t + 1)) (nI nC) (nI nT) (nI nS) (nI nD) (nI nB) (nI nK) 0 (fC 0) st op kk L su own ow tr ex al tp fB fH fA fC fT fP) : wY_run_47 post c (n + 1) x4 0 (nI t) (nI nC) (nI nT) (nI nS) (nI nD) (nI nB) (nI nK) (nI (0 + 1)) rs st op kk L su own ow tr ex al tp fB fH fA fC fT fP := by
  have v16 : vp_in (nI 0) 16 := vp_in_nI (by omega) (by omega)
  refine br_f (nI_ge (b := 4000) ht (by omega)) (br_t rfl (nm_r (nI_pred 0) ?_))
  rw [nI_clamp (show 0 < 2 ^ 31 by omega)]
  refine ⟨v16, nm_r eB ⟨v16, vp_in_nI hb (by omega), ?_⟩⟩
  rw [nI_clamp (show b < 2 ^ 31 by omega), eP, eL]
  exact br_f Int32.lt_irrefl ⟨v16, ty_ret_0 (nm_r (nI_1 t) q)⟩
end
section
/-! a run, turn by turn: both sides end alike -/
def tf_LK (c m d s nC nT nS nD nB nK : Nat) (L op kk su own ow tr xe ex al fl fA fC fT fP fB fH : Nat → Int32) : Prop := ∃ (z res : Int32) (gA gC gT gP gB gH : Nat → Int32), (∀ (post : Int32 → SX → Prop) (ls rr : Int32) (n t : Nat), m < n → t + m < 1000000 → (∀ sp : Int32, post res (nI nC, nI nT, nI nS, nI nD, nI nB, nI nK, z, res, nI c, sp, 0, L, op, kk, su, own, ow, tr, xe, al, fl, gA, gC, gT, gP, gB, gH)) → wX_run_43 post n (nI t) (nI nC) (nI nT) (nI nS) (nI nD) (nI nB) (nI nK) ls rr (nI c) (nI s) (nI d) L op kk su own ow tr xe al fl fA fC fT fP fB fH) ∧ (∀ (post : Int32 → SY → Prop) (st rs : Int32) (tp : Nat → Int32) (n t : Nat), m < n → t + m < 4000 → (∀ (rs : Int32) (tp : Nat → Int32), post res (nI nC, nI nT, nI nS, nI nD, nI nB, nI nK, 0, rs, z, op, kk, L, su, own, ow, tr, ex, al, tp, gB, gH, gA, gC, gT, gP)) → wY_run_47 post (nI c) n (nI s) 0 (nI t) (nI nC) (nI nT) (nI nS) (nI nD) (nI nB) (nI nK) (nI d) rs st op kk L su own ow tr ex al tp fB fH fA fC fT fP)
theorem tf_LK_step {c m d s d' s' nC nT nS nD nB nK : Nat} {L op kk su own ow tr xe ex al fl fA fC fT fP fB fH fA1 fC1 fT1 fP1 fB1 fH1 : Nat → Int32} (h : tf_LK c m d' s' nC nT nS nD nB nK L op kk su own ow tr xe ex al fl fA1 fC1 fT1 fP1 fB1 fH1) (x : ∀ (post : Int32 → SX → Prop) (ls rr : Int32) (n t : Nat), t < 1000000 → wX_run_43 post n (nI (t + 1)) (nI nC) (nI nT) (nI nS) (nI nD) (nI nB) (nI nK) ls rr (nI c) (nI s') (nI d') L op kk su own ow tr xe al fl fA1 fC1 fT1 fP1 fB1 fH1 → wX_run_43 post (n + 1) (nI t) (nI nC) (nI nT) (nI nS) (nI nD) (nI nB) (nI nK) ls rr (nI c) (nI s) (nI d) L op kk su own ow tr xe al fl fA fC fT fP fB fH) (y : ∀ (post : Int32 → SY → Prop) (st rs : Int32) (tp : Nat → Int32) (n t : Nat), t < 4000 → (∀ tp : Nat → Int32, wY_run_47 post (nI c) n (nI s') 0 (nI (t + 1)) (nI nC) (nI nT) (nI nS) (nI nD) (nI nB) (nI nK) (nI d') rs st op kk L su own ow tr ex al tp fB1 fH1 fA1 fC1 fT1 fP1) → wY_run_47 post (nI c) (n + 1) (nI s) 0 (nI t) (nI nC) (nI nT) (nI nS) (nI nD) (nI nB) (nI nK) (nI d) rs st op kk L su own ow tr ex al tp fB fH fA fC fT fP) : tf_LK c (m + 1) d s nC nT nS nD nB nK L op kk su own ow tr xe ex al fl fA fC fT fP fB fH := by
  obtain ⟨z, res, gA, gC, gT, gP, gB, gH, hX, hY⟩ := h
  refine ⟨z, res, gA, gC, gT, gP, gB, gH, fun post ls rr n t hn ht p => ?_, fun post st rs tp n t hn ht p => ?_⟩
  · obtain ⟨n', rfl⟩ : ∃ n', n = n' + 1 := ⟨n - 1, by omega⟩
    exact x post ls rr n' t (by omega) (hX post ls rr n' (t + 1) (by omega) (by omega) p)
  · obtain ⟨n', rfl⟩ : ∃ n', n = n' + 1 := ⟨n - 1, by omega⟩
    exact y post st rs tp n' t (by omega) (fun tp => hY post st rs tp n' (t + 1) (by omega) (by omega) p)
theorem tf_LK_end {c m d s s' nC nT nS nD nB nK : Nat} {z res : Int32} {L op kk su own ow tr xe ex al fl fA fC fT fP fB fH fA1 fC1 fT1 fP1 fB1 fH1 : Nat → Int32} (hz : ¬ z = 0) (h1 : ¬ z = 1 → res = 0) (x : ∀ (post : Int32 → SX → Prop) (ls rr : Int32) (n t : Nat), t < 1000000 → wX_run_43 post n (nI (t + 1)) (nI nC) (nI nT) (nI nS) (nI nD) (nI nB) (nI nK) z res (nI c) (nI s') 0 L op kk su own ow tr xe al fl fA1 fC1 fT1 fP1 fB1 fH1 → wX_run_43 post (n + 1) (nI t) (nI nC) (nI nT) (nI nS) (nI nD) (nI nB) (nI nK) ls rr (nI c) (nI s) (nI d) L op kk su own ow tr xe al fl fA fC fT fP fB fH) (y : ∀ (post : Int32 → SY → Prop) (st rs : Int32) (tp : Nat → Int32) (n t : Nat), t < 4000 → (∀ (dp rs : Int32) (tp : Nat → Int32), (z = 1 → rs = res) → wY_run_47 post (nI c) n (nI s') z (nI (t + 1)) (nI nC) (nI nT) (nI nS) (nI nD) (nI nB) (nI nK) dp rs st op kk L su own ow tr ex al tp fB1 fH1 fA1 fC1 fT1 fP1) → wY_run_47 post (nI c) (n + 1) (nI s) 0 (nI t) (nI nC) (nI nT) (nI nS) (nI nD) (nI nB) (nI nK) (nI d) rs st op kk L su own ow tr ex al tp fB fH fA fC fT fP) : tf_LK c (m + 1) d s nC nT nS nD nB nK L op kk su own ow tr xe ex al fl fA fC fT fP fB fH := by
  refine ⟨z, res, fA1, fC1, fT1, fP1, fB1, fH1, fun post ls rr n t hn ht p => ?_, fun post st rs tp n t hn ht p => ?_⟩
  · obtain ⟨n', rfl⟩ : ∃ n', n = n' + 1 + 1 := ⟨n - 2, by omega⟩
    exact x post ls rr (n' + 1) t (by omega) (tx_end (by omega) (p _))
  · obtain ⟨n', rfl⟩ : ∃ n', n = n' + 1 + 1 := ⟨n - 2, by omega⟩
    refine y post st rs tp (n' + 1) t (by omega) (fun dp rs tp hr => ?_)
    by_cases e : z = 1
    · have e2 := hr e
      subst e
      subst e2
      exact ty_end_1 (by omega) (p rs tp)
    · have e2 := h1 e
      subst e2
      exact ty_end_z (by omega) hz e (p rs tp)
theorem tf_SE_z {nC nB nD d : Nat} {su P : Nat → Int32} {x z : Int32} (h : tf_SE nC nB nD d su P x z) : ¬ z = 0 ∧ ¬ z = 1 := by
  rcases h with ⟨e, _⟩ | ⟨e, _⟩ | ⟨e, _⟩
  · rw [e]; decide
  · rw [e]; decide
  · rw [e]; decide
theorem tf_lock {c nC nT nS nD nB nK : Nat} {L op kk su own ow tr xe ex al fl : Nat → Int32} (hC : nC ≤ 8) (hS : nS ≤ 16) (hT : nT ≤ 8) (hK : nK ≤ 16) (hB : nB ≤ 16) (hD : nD ≤ 16) (hV : tf_CV nT nS nK ow tr al) (hU : tf_SV nC su) (hF : tf_FL nC nT nS nK own ow tr ex al fl) (hO : tf_OV nB own) (hL : tf_LV nB L) (hCE : tf_CE nS nB L op kk) (hc : c < nC) : ∀ m d s (fA fC fT fP fB fH : Nat → Int32), 1 ≤ d → d ≤ nD → s ≤ 1000 → tf_VF nB nC d L fB fH fP → 2 * (1000 - s) + d ≤ m → tf_LK c m d s nC nT nS nD nB nK L op kk su own ow tr xe ex al fl fA fC fT fP fB fH := by
  intro m
  induction m with
  | zero => intro d s fA fC fT fP fB fH h1 _ _ _ h5; omega
  | succ m ih =>
    intro d s fA fC fT fP fB fH h1 h2 h3 h4 h5
    obtain ⟨e, rfl⟩ : ∃ e, d = e + 1 := ⟨d - 1, by omega⟩
    obtain ⟨⟨b, l, p, hb, hl, eB, eL, eP, hp⟩, h, hh, eH⟩ := h4 e (by omega)
    by_cases hpl : p < l
    · by_cases hs : s = 1000
      · subst hs
        exact tf_LK_end (z := 5) (res := 0) (s' := 1000) (by decide) (fun _ => rfl)
          (fun post ls rr n t ht q => br_f (nI_ge (b := 1000000) ht (by omega)) (br_f (nI_nle (by omega) (by omega)) (tx_act_t (by omega) (by omega) hl hpl eB eP eL (nm_r (nI_1 t) q))))
          (fun post st rs tp n t ht q => ty_st_t (by omega) (by omega) hl hpl ht eB eP eL (q _ _ _ (fun z => absurd z (by decide))))
      · have hs' : s < 1000 := by omega
        have hv := tf_VF_pc h4 (i := e) hb hl eB eL hpl
        obtain ⟨o, ho8, eo, hsel⟩ := hCE b l p hb hl eL hpl
        have hcl : tf_cl nC (nI c) := Or.inr ⟨c, hc, rfl⟩
        have hcs : tf_cl nC (su h) := tf_SV_cl hU hh
        have cases9 : o = 0 ∨ o = 1 ∨ o = 2 ∨ o = 3 ∨ o = 4 ∨ o = 5 ∨ o = 6 ∨ o = 7 ∨ o = 8 := by omega
        rcases cases9 with rfl | rfl | rfl | rfl | rfl | rfl | rfl | rfl | rfl
        · exact tf_LK_step (ih (e + 1) (s + 1) fA (upd fC e (fA e)) fT (upd fP e (nI (p + 1))) fB fH (by omega) h2 (by omega) hv (by omega))
            (fun post ls rr n t ht q => br_f (nI_ge (b := 1000000) ht (by omega)) (br_f (nI_nle (by omega) (by omega)) (tx_act_x (by omega) (by omega) hl hpl hs' eB eP eL (fun ψ w => tx_ex_0 (by omega) (by omega) eo w) (nm_r (nI_1 t) q))))
            (fun post st rs tp n t ht q => ty_st_0 (by omega) (by omega) hl hpl hs' ht eB eP eL eo (q tp))
        · exact tf_LK_step (ih (e + 1) (s + 1) fA (upd fC e (kk (b * 16 + p))) fT (upd fP e (nI (p + 1))) fB fH (by omega) h2 (by omega) hv (by omega))
            (fun post ls rr n t ht q => br_f (nI_ge (b := 1000000) ht (by omega)) (br_f (nI_nle (by omega) (by omega)) (tx_act_x (by omega) (by omega) hl hpl hs' eB eP eL (fun ψ w => tx_ex_1 (by omega) (by omega) eo w) (nm_r (nI_1 t) q))))
            (fun post st rs tp n t ht q => ty_st_1 (by omega) (by omega) hl hpl hs' ht eB eP eL eo (q tp))
        · exact tf_LK_step (ih (e + 1) (s + 1) fA (upd fC e (fC e + kk (b * 16 + p))) fT (upd fP e (nI (p + 1))) fB fH (by omega) h2 (by omega) hv (by omega))
            (fun post ls rr n t ht q => br_f (nI_ge (b := 1000000) ht (by omega)) (br_f (nI_nle (by omega) (by omega)) (tx_act_x (by omega) (by omega) hl hpl hs' eB eP eL (fun ψ w => tx_ex_2 (by omega) (by omega) eo w) (nm_r (nI_1 t) q))))
            (fun post st rs tp n t ht q => ty_st_2 (by omega) (by omega) hl hpl hs' ht eB eP eL eo (q tp))
        · exact tf_LK_step (ih (e + 1) (s + 1) fA (upd fC e (fC e * kk (b * 16 + p))) fT (upd fP e (nI (p + 1))) fB fH (by omega) h2 (by omega) hv (by omega))
            (fun post ls rr n t ht q => br_f (nI_ge (b := 1000000) ht (by omega)) (br_f (nI_nle (by omega) (by omega)) (tx_act_x (by omega) (by omega) hl hpl hs' eB eP eL (fun ψ w => tx_ex_3 (by omega) (by omega) eo w) (nm_r (nI_1 t) q))))
            (fun post st rs tp n t ht q => ty_st_3 (by omega) (by omega) hl hpl hs' ht eB eP eL eo (q tp))
        · exact tf_LK_step (ih (e + 1) (s + 1) fA fC (upd fT e (fC e)) (upd fP e (nI (p + 1))) fB fH (by omega) h2 (by omega) hv (by omega))
            (fun post ls rr n t ht q => br_f (nI_ge (b := 1000000) ht (by omega)) (br_f (nI_nle (by omega) (by omega)) (tx_act_x (by omega) (by omega) hl hpl hs' eB eP eL (fun ψ w => tx_ex_4 (by omega) (by omega) eo w) (nm_r (nI_1 t) q))))
            (fun post st rs tp n t ht q => ty_st_4 (by omega) (by omega) hl hpl hs' ht eB eP eL eo (q tp))
        · exact tf_LK_step (ih (e + 1) (s + 1) fA (upd fC e (fC e + fT e)) fT (upd fP e (nI (p + 1))) fB fH (by omega) h2 (by omega) hv (by omega))
            (fun post ls rr n t ht q => br_f (nI_ge (b := 1000000) ht (by omega)) (br_f (nI_nle (by omega) (by omega)) (tx_act_x (by omega) (by omega) hl hpl hs' eB eP eL (fun ψ w => tx_ex_5 (by omega) (by omega) eo w) (nm_r (nI_1 t) q))))
            (fun post st rs tp n t ht q => ty_st_5 (by omega) (by omega) hl hpl hs' ht eB eP eL eo (q tp))
        · obtain ⟨g, hg, ek⟩ := hsel (by omega)
          rcases tf_send (nB := nB) (nD := nD) (d := e + 1) (P := fun c => tf_PR own ow tr ex al nK c g) hC hU (fun c' hc' => tf_gv_PR hT hS hV hO (by omega) hg) hcl h2 with ⟨z, r⟩ | ⟨b', h', r⟩
          · have hz := tf_SE_z r
            exact tf_LK_end (z := z) (res := 0) (s' := s + 1) (fA1 := fA) (fC1 := fC) (fT1 := fT) (fP1 := upd fP e (nI (p + 1))) (fB1 := fB) (fH1 := fH) hz.1 (fun _ => rfl)
              (fun post ls rr n t ht q => br_f (nI_ge (b := 1000000) ht (by omega)) (br_f (nI_nle (by omega) (by omega)) (tx_act_x (by omega) (by omega) hl hpl hs' eB eP eL (fun ψ w => tx_ex_6e hC hS hB hD hF hU (by omega) (by omega) eo hg ek hcl h2 r w) (nm_r (nI_1 t) q))))
              (fun post st rs tp n t ht q => ty_st_6e (by omega) (by omega) hl hpl hs' ht eB eP eL hC hS hT hK hB hD hV hU eo hg ek hcl h2 r (fun g => q _ _ g (fun z1 => absurd z1 hz.2)))
          · obtain ⟨l2, hl2, el2⟩ := hL.1 b' (by have := r.2.1; omega)
            exact tf_LK_step (ih (e + 1 + 1) (s + 1) (upd fA (e + 1) (fC e)) (upd fC (e + 1) (fC e)) (upd fT (e + 1) 0) (upd (upd fP e (nI (p + 1))) (e + 1) 0) (upd fB (e + 1) (nI b')) (upd fH (e + 1) (nI h')) (by omega) (by have := r.2.2.1; omega) (by omega) (tf_VF_push hv r.2.1 hl2 el2 r.1) (by omega))
              (fun post ls rr n t ht q => br_f (nI_ge (b := 1000000) ht (by omega)) (br_f (nI_nle (by omega) (by omega)) (tx_act_x (by omega) (by omega) hl hpl hs' eB eP eL (fun ψ w => tx_ex_6p hC hS hB hD hF hU (by omega) (by omega) eo hg ek hcl r w) (nm_r (nI_1 t) q))))
              (fun post st rs tp n t ht q => ty_st_6p (by omega) (by omega) hl hpl hs' ht eB eP eL hC hS hT hK hB hD hV hU eo hg ek hcl r q)
        · obtain ⟨g, hg, ek⟩ := hsel (by omega)
          rcases tf_send (nB := nB) (nD := nD) (d := e + 1) (P := fun c => tf_PR own ow tr ex al nK c g) hC hU (fun c' hc' => tf_gv_PR hT hS hV hO (by omega) hg) hcs h2 with ⟨z, r⟩ | ⟨b', h', r⟩
          · have hz := tf_SE_z r
            exact tf_LK_end (z := z) (res := 0) (s' := s + 1) (fA1 := fA) (fC1 := fC) (fT1 := fT) (fP1 := upd fP e (nI (p + 1))) (fB1 := fB) (fH1 := fH) hz.1 (fun _ => rfl)
              (fun post ls rr n t ht q => br_f (nI_ge (b := 1000000) ht (by omega)) (br_f (nI_nle (by omega) (by omega)) (tx_act_x (by omega) (by omega) hl hpl hs' eB eP eL (fun ψ w => tx_ex_7e hC hS hB hD hF hU (by omega) (by omega) eo hg ek hh eH hcs h2 r w) (nm_r (nI_1 t) q))))
              (fun post st rs tp n t ht q => ty_st_7e (by omega) (by omega) hl hpl hs' ht eB eP eL hC hS hT hK hB hD hV hU eo hg ek hh eH hcs h2 r (fun g => q _ _ g (fun z1 => absurd z1 hz.2)))
          · obtain ⟨l2, hl2, el2⟩ := hL.1 b' (by have := r.2.1; omega)
            exact tf_LK_step (ih (e + 1 + 1) (s + 1) (upd fA (e + 1) (fC e)) (upd fC (e + 1) (fC e)) (upd fT (e + 1) 0) (upd (upd fP e (nI (p + 1))) (e + 1) 0) (upd fB (e + 1) (nI b')) (upd fH (e + 1) (nI h')) (by omega) (by have := r.2.2.1; omega) (by omega) (tf_VF_push hv r.2.1 hl2 el2 r.1) (by omega))
              (fun post ls rr n t ht q => br_f (nI_ge (b := 1000000) ht (by omega)) (br_f (nI_nle (by omega) (by omega)) (tx_act_x (by omega) (by omega) hl hpl hs' eB eP eL (fun ψ w => tx_ex_7p hC hS hB hD hF hU (by omega) (by omega) eo hg ek hh eH hcs r w) (nm_r (nI_1 t) q))))
              (fun post st rs tp n t ht q => ty_st_7p (by omega) (by omega) hl hpl hs' ht eB eP eL hC hS hT hK hB hD hV hU eo hg ek hh eH hcs r q)
        · rcases Nat.eq_zero_or_pos e with e0 | e0
          · subst e0
            exact tf_LK_end (z := 1) (res := fC 0) (s' := s + 1) (fA1 := fA) (fC1 := fC) (fT1 := fT) (fP1 := upd fP 0 (nI (p + 1))) (fB1 := fB) (fH1 := fH) (by decide) (fun z => absurd rfl z)
              (fun post ls rr n t ht q => br_f (nI_ge (b := 1000000) ht (by omega)) (br_f (nI_nle (by omega) (by omega)) (tx_act_x (by omega) (by omega) hl hpl hs' eB eP eL (fun ψ w => tx_ex_8e (by omega) eo w) (nm_r (nI_1 t) q))))
              (fun post st rs tp n t ht q => ty_st_8e (by omega) hl hpl hs' ht eB eP eL eo (q _ _ _ (fun _ => rfl)))
          · obtain ⟨e, rfl⟩ : ∃ e', e = e' + 1 := ⟨e - 1, by omega⟩
            exact tf_LK_step (ih (e + 1) (s + 1) fA (upd fC e (fC (e + 1))) fT (upd fP (e + 1) (nI (p + 1))) fB fH (by omega) (by omega) (by omega) (tf_VF_le hv (by omega)) (by omega))
              (fun post ls rr n t ht q => br_f (nI_ge (b := 1000000) ht (by omega)) (br_f (nI_nle (by omega) (by omega)) (tx_act_x (by omega) (by omega) hl hpl hs' eB eP eL (fun ψ w => tx_ex_8r (by omega) (by omega) eo w) (nm_r (nI_1 t) q))))
              (fun post st rs tp n t ht q => ty_st_8r (by omega) (by omega) hl hpl hs' ht eB eP eL eo (q tp))
    · have epl : p = l := by omega
      subst epl
      rcases Nat.eq_zero_or_pos e with e0 | e0
      · subst e0
        exact tf_LK_end (z := 1) (res := fC 0) (s' := s) (fA1 := fA) (fC1 := fC) (fT1 := fT) (fP1 := fP) (fB1 := fB) (fH1 := fH) (by decide) (fun z => absurd rfl z)
          (fun post ls rr n t ht q => br_f (nI_ge (b := 1000000) ht (by omega)) (br_f (nI_nle (by omega) (by omega)) (tx_act_r (by omega) (by omega) eB eP eL (fun ψ w => tx_ret_0 w) (nm_r (nI_1 t) q))))
          (fun post st rs tp n t ht q => ty_st_e (by omega) ht eB eP eL (q _ _ _ (fun _ => rfl)))
      · obtain ⟨e, rfl⟩ : ∃ e', e = e' + 1 := ⟨e - 1, by omega⟩
        exact tf_LK_step (ih (e + 1) s fA (upd fC e (fC (e + 1))) fT fP fB fH (by omega) (by omega) (by omega) (tf_VF_le h4 (by omega)) (by omega))
          (fun post ls rr n t ht q => br_f (nI_ge (b := 1000000) ht (by omega)) (br_f (nI_nle (by omega) (by omega)) (tx_act_r (by omega) (by omega) eB eP eL (fun ψ w => tx_ret_s (by omega) w) (nm_r (nI_1 t) q))))
          (fun post st rs tp n t ht q => ty_st_r (by omega) (by omega) ht eB eP eL (q tp))
theorem i_vc_run {k : Nat} {u : SX} {v : SY} (I : i_Rel k u v) (hk : k + 4 ≤ 2052) (v1 : Int32) (v2 : Int32) (v3 : Int32) : wpX_run (fun r u' => wpY_run (fun r' v' => r' = r ∧ i_Rel (k + 4) u' v') v v1 v2 v3) u v1 v2 v3 := by
  obtain ⟨nC, nT, nS, nD, nB, nK, ls, rr, rc, sp, fc, dp, rs, L, op, kk, su, own, ow, tr, xe, ex, al, fl, tp, fA, fC, fT, fP, fB, fH, rfl, rfl, h⟩ := I
  obtain ⟨⟨hC, hT, hS, hD, hB, hK⟩, hL, hCE, hU, hO, hV, hA, hE, hF⟩ := id h
  by_cases a : tf_in v1 nC
  · by_cases b : tf_in v2 nS
    · obtain ⟨c, hc, rfl⟩ := a
      obtain ⟨s, hs, rfl⟩ := b
      have hcl : tf_cl nC (nI c) := Or.inr ⟨c, hc, rfl⟩
      unfold wpX_run
      refine tx_isClass_t hC.2 ⟨c, hc, rfl⟩ (br_f (by decide) (tx_isSelector_t hS.2 ⟨s, hs, rfl⟩ (br_f (by decide) ?_)))
      rcases tf_send (nB := nB) (nD := nD) (d := 0) (P := fun c => tf_PR own ow tr ex al nK c s) hC.2 hU (fun c' hc' => tf_gv_PR hT.2 hS.2 hV hO (by omega) hs) hcl (by omega) with ⟨z, r⟩ | ⟨b', h', r⟩
      · have hz := tf_SE_z r
        refine tx_send_e (d := 0) hC.2 hS.2 hB hD.2 hF hU hs hcl (by omega) r ⟨1, tx_end (n := 0) (t := 0) (by omega) ?_⟩
        unfold wpY_run
        exact tf_r1t (by omega) ⟨c, hc, rfl⟩ (ty_validSel_t hS.2 ⟨s, hs, rfl⟩ (br_f (by decide) (ty_send_e (d := 0) hC.2 hS.2 hT.2 hK hB hD.2 hV hU hs hcl (by omega) r (fun g => ⟨1, ty_end_z (n := 0) (t := 0) (by omega) hz.1 hz.2 ⟨rfl, tf_mk h⟩⟩))))
      · obtain ⟨l2, hl2, el2⟩ := hL.1 b' (by have := r.2.1; omega)
        obtain ⟨z, res, gA, gC, gT, gP, gB, gH, hX, hY⟩ := tf_lock (xe := xe) hC.2 hS.2 hT.2 hK hB hD.2 hV hU hF hO hL hCE hc 2001 (0 + 1) 0 (upd fA 0 v3) (upd fC 0 v3) (upd fT 0 0) (upd fP 0 0) (upd fB 0 (nI b')) (upd fH 0 (nI h')) (by omega) hD.1 (by omega) (tf_VF_push (fun i hi => absurd hi (by omega)) r.2.1 hl2 el2 r.1) (by omega)
        refine tx_send_p (d := 0) hC.2 hS.2 hB hD.2 hF hU hs hcl r ⟨2002, hX _ ls rr 2002 0 (by omega) (by omega) (fun sp => ?_)⟩
        unfold wpY_run
        exact tf_r1t (by omega) ⟨c, hc, rfl⟩ (ty_validSel_t hS.2 ⟨s, hs, rfl⟩ (br_f (by decide) (ty_send_p (d := 0) hC.2 hS.2 hT.2 hK hB hD.2 hV hU hs hcl r (fun g => ⟨2002, hY _ _ _ g 2002 0 (by omega) (by omega) (fun rs tp => ⟨rfl, tf_mk h⟩)⟩))))
    · unfold wpX_run
      refine tx_isClass_t hC.2 a (br_f (by decide) (tx_isSelector_f hS.2 b (br_t rfl ?_)))
      unfold wpY_run
      exact tf_r1t (by omega) a (ty_validSel_f hS.2 b (br_t rfl ⟨rfl, tf_mk h⟩))
  · unfold wpX_run
    refine tx_isClass_f hC.2 a (br_t rfl ?_)
    unfold wpY_run
    exact tf_r1f (by omega) a ⟨rfl, tf_mk h⟩
end
