section
theorem s_l : ∀ n, n < 32 → ((nI n &&& 31).toBitVec.smod 32).toNat = n := by decide +kernel
theorem nx_and (a b : Nat) : nI a &&& nI b = nI (a &&& b) := by
  apply Int32.toBitVec_inj.1
  show BitVec.ofNat 32 a &&& BitVec.ofNat 32 b = BitVec.ofNat 32 (a &&& b)
  apply BitVec.eq_of_getLsbD_eq
  intro i hi
  simp [hi]
end
section
def tf_mg (a b : Int32) : Int32 := if b = -1 then a else if b = a then a else if a = -1 then b else -2
def tf_dc (tr ex T : Nat → Int32) (k s : Nat) : Int32 := if ex (k * 16 + s) = 0 then T ((tr k).toNatClampNeg * 16 + s) else -1
def tf_ac (tr al T : Nat → Int32) (k s : Nat) : Int32 := if al (k * 16 + s) = -1 then -1 else T ((tr k).toNatClampNeg * 16 + (al (k * 16 + s)).toNatClampNeg)
def tf_cs (ow tr ex al T : Nat → Int32) (o s : Nat) : Nat → Int32
  | 0 => -1
  | k + 1 => if ow k = nI o then tf_mg (tf_mg (tf_cs ow tr ex al T o s k) (tf_dc tr ex T k s)) (tf_ac tr al T k s) else tf_cs ow tr ex al T o s k
def tf_pf (own ow tr ex al T : Nat → Int32) (nK o s : Nat) : Int32 := if own (o * 16 + s) = -1 then tf_cs ow tr ex al T o s nK else own (o * 16 + s)
def tf_tb (own ow tr ex al : Nat → Int32) (nK : Nat) : Nat → Nat → Int32
  | 0 => fun _ => -1
  | t + 1 => fun i => if i / 16 = t then tf_pf own ow tr ex al (tf_tb own ow tr ex al nK t) nK (8 + t) (i % 16) else tf_tb own ow tr ex al nK t i
def tf_pv (own ow tr ex al : Nat → Int32) (nK i : Nat) : Int32 := tf_tb own ow tr ex al nK (i / 16 + 1) i
def tf_PR (own ow tr ex al : Nat → Int32) (nK o s : Nat) : Int32 := tf_pf own ow tr ex al (tf_pv own ow tr ex al nK) nK o s
def tf_CV (nT nS nK : Nat) (ow tr al : Nat → Int32) : Prop := ∀ k, k < nK → ∃ o u, ow k = nI o ∧ tr k = nI u ∧ o < 16 ∧ u < nT ∧ (8 ≤ o → u + 8 < o) ∧ ∀ s, s < nS → al (k * 16 + s) = -1 ∨ ∃ r, r < nS ∧ al (k * 16 + s) = nI r
theorem tf_cs_congr {nT nS nK : Nat} {ow tr ex al T T' : Nat → Int32} (hT : nT ≤ 8) (hS : nS ≤ 16) (hc : tf_CV nT nS nK ow tr al) {o s : Nat} (ho : o < 16) (hs : s < nS) (h : ∀ u r, u < nT → (8 ≤ o → u + 8 < o) → r < nS → T (u * 16 + r) = T' (u * 16 + r)) : ∀ n, n ≤ nK → tf_cs ow tr ex al T o s n = tf_cs ow tr ex al T' o s n := by
  intro n
  induction n with
  | zero => intro _; rfl
  | succ n ih =>
    intro hn
    have e := ih (by omega)
    obtain ⟨o', u, h1, h2, h3, h4, h5, h6⟩ := hc n (by omega)
    simp only [tf_cs]
    by_cases c : ow n = nI o
    · have eo : o' = o := (nI_eq (by omega) (by omega)).mp (h1.symm.trans c)
      subst eo
      have hd : tf_dc tr ex T n s = tf_dc tr ex T' n s := by
        unfold tf_dc
        rw [h2, nI_clamp (by omega), h u s h4 h5 hs]
      have ha : tf_ac tr al T n s = tf_ac tr al T' n s := by
        unfold tf_ac
        rcases h6 s hs with e1 | ⟨r, hr, e1⟩
        · rw [if_pos e1, if_pos e1]
        · rw [e1, h2, nI_clamp (by omega), nI_clamp (by omega), h u r h4 h5 hr]
      rw [if_pos c, if_pos c, e, hd, ha]
    · rw [if_neg c, if_neg c, e]
theorem tf_pf_congr {nT nS nK : Nat} {own ow tr ex al T T' : Nat → Int32} (hT : nT ≤ 8) (hS : nS ≤ 16) (hc : tf_CV nT nS nK ow tr al) {o s : Nat} (ho : o < 16) (hs : s < nS) (h : ∀ u r, u < nT → (8 ≤ o → u + 8 < o) → r < nS → T (u * 16 + r) = T' (u * 16 + r)) : tf_pf own ow tr ex al T nK o s = tf_pf own ow tr ex al T' nK o s := by
  unfold tf_pf
  rw [tf_cs_congr hT hS hc ho hs h nK (Nat.le_refl _)]
theorem tf_tb_pv {own ow tr ex al : Nat → Int32} {nK : Nat} : ∀ t i, i / 16 < t → tf_tb own ow tr ex al nK t i = tf_pv own ow tr ex al nK i := by
  intro t
  induction t with
  | zero => intro i h; omega
  | succ t ih =>
    intro i h
    by_cases c : i / 16 = t
    · unfold tf_pv
      rw [c]
    · simp only [tf_tb]
      rw [if_neg c]
      exact ih i (by omega)
theorem tf_pv_eq {own ow tr ex al : Nat → Int32} {nK : Nat} (t s : Nat) (hs : s < 16) : tf_pv own ow tr ex al nK (t * 16 + s) = tf_pf own ow tr ex al (tf_tb own ow tr ex al nK t) nK (8 + t) s := by
  have e1 : (t * 16 + s) / 16 = t := by omega
  have e2 : (t * 16 + s) % 16 = s := by omega
  unfold tf_pv
  rw [e1]
  simp only [tf_tb]
  rw [if_pos e1, e2]
theorem tf_pf_tr {nT nS nK : Nat} {own ow tr ex al T : Nat → Int32} (hT : nT ≤ 8) (hS : nS ≤ 16) (hc : tf_CV nT nS nK ow tr al) {t s : Nat} (ht : t < 8) (hs : s < nS) (h : ∀ u r, u < nT → u < t → r < nS → T (u * 16 + r) = tf_pv own ow tr ex al nK (u * 16 + r)) : tf_pf own ow tr ex al T nK (8 + t) s = tf_pv own ow tr ex al nK (t * 16 + s) := by
  rw [tf_pv_eq t s (by omega)]
  refine tf_pf_congr hT hS hc (by omega) hs (fun u r hu h8 hr => ?_)
  have h9 := h8 (by omega)
  rw [h u r hu (by omega) hr, tf_tb_pv t _ (by omega)]
theorem tf_PR_tr {nT nS nK : Nat} {own ow tr ex al : Nat → Int32} (hT : nT ≤ 8) (hS : nS ≤ 16) (hc : tf_CV nT nS nK ow tr al) {t s : Nat} (ht : t < 8) (hs : s < nS) : tf_PR own ow tr ex al nK (8 + t) s = tf_pv own ow tr ex al nK (t * 16 + s) := tf_pf_tr hT hS hc ht hs (fun _ _ _ _ _ => rfl)
/-- a body, no value, or a conflict -/
def tf_gv (nB : Nat) (v : Int32) : Prop := v = -1 ∨ v = -2 ∨ ∃ b, b < nB ∧ v = nI b
theorem tf_gv_mg {nB : Nat} {a b : Int32} (ha : tf_gv nB a) (hb : tf_gv nB b) : tf_gv nB (tf_mg a b) := by
  unfold tf_mg
  split
  · exact ha
  · split
    · exact ha
    · split
      · exact hb
      · exact Or.inr (Or.inl rfl)
theorem tf_gv_cs {nB : Nat} {ow tr ex al T : Nat → Int32} {o s : Nat} (h : ∀ i, tf_gv nB (T i)) : ∀ n, tf_gv nB (tf_cs ow tr ex al T o s n) := by
  intro n
  induction n with
  | zero => exact Or.inl rfl
  | succ n ih =>
    simp only [tf_cs]
    split
    · refine tf_gv_mg (tf_gv_mg ih ?_) ?_
      · unfold tf_dc
        split
        · exact h _
        · exact Or.inl rfl
      · unfold tf_ac
        split
        · exact Or.inl rfl
        · exact h _
    · exact ih
def tf_OV (nB : Nat) (own : Nat → Int32) : Prop := ∀ i, i < 256 → own i = -1 ∨ ∃ b, b < nB ∧ own i = nI b
theorem tf_gv_pf {nB : Nat} {own ow tr ex al T : Nat → Int32} {nK o s : Nat} (hO : tf_OV nB own) (ho : o < 16) (hs : s < 16) (h : ∀ i, tf_gv nB (T i)) : tf_gv nB (tf_pf own ow tr ex al T nK o s) := by
  unfold tf_pf
  split
  · exact tf_gv_cs h _
  · rcases hO (o * 16 + s) (by omega) with e | ⟨b, hb, e⟩
    · exact Or.inl e
    · exact Or.inr (Or.inr ⟨b, hb, e⟩)
theorem tf_gv_tb {nB : Nat} {own ow tr ex al : Nat → Int32} {nK : Nat} (hO : tf_OV nB own) : ∀ t, t ≤ 8 → ∀ i, tf_gv nB (tf_tb own ow tr ex al nK t i) := by
  intro t
  induction t with
  | zero => intro _ i; exact Or.inl rfl
  | succ t ih =>
    intro ht i
    simp only [tf_tb]
    split
    · exact tf_gv_pf hO (by omega) (by omega) (ih (by omega))
    · exact ih (by omega) i
theorem tf_gv_PR {nT nS nK nB : Nat} {own ow tr ex al : Nat → Int32} (hT : nT ≤ 8) (hS : nS ≤ 16) (hc : tf_CV nT nS nK ow tr al) (hO : tf_OV nB own) {o s : Nat} (ho : o < 16) (hs : s < nS) : tf_gv nB (tf_PR own ow tr ex al nK o s) := by
  unfold tf_PR
  rw [tf_pf_congr hT hS hc ho hs (T' := tf_tb own ow tr ex al nK nT) (fun u r hu _ hr => (tf_tb_pv nT _ (by omega)).symm)]
  exact tf_gv_pf hO ho (by omega) (tf_gv_tb hO nT hT)
def tf_fh (su P : Nat → Int32) : Nat → Int32 → Int32
  | 0, _ => -1
  | n + 1, x => if x = -1 then -1 else if P x.toNatClampNeg = -1 then tf_fh su P n (su x.toNatClampNeg) else x
def tf_SV (nC : Nat) (su : Nat → Int32) : Prop := ∀ c, c < nC → su c = -1 ∨ ∃ d, d < c ∧ su c = nI d
def tf_cl (nC : Nat) (x : Int32) : Prop := x = -1 ∨ ∃ c, c < nC ∧ x = nI c
theorem tf_m1 {n : Nat} (h : n < 2 ^ 31) : ¬ nI n = -1 := by
  intro e
  have h2 := congrArg Int32.toInt e
  rw [nI_toInt h, show (-1 : Int32).toInt = -1 from by decide] at h2
  omega
theorem tf_m2 {n : Nat} (h : n < 2 ^ 31) : ¬ nI n = -2 := by
  intro e
  have h2 := congrArg Int32.toInt e
  rw [nI_toInt h, show (-2 : Int32).toInt = -2 from by decide] at h2
  omega
theorem tf_SV_cl {nC : Nat} {su : Nat → Int32} (hs : tf_SV nC su) {c : Nat} (hc : c < nC) : tf_cl nC (su c) := by
  rcases hs c hc with e | ⟨d, hd, e⟩
  · exact Or.inl e
  · exact Or.inr ⟨d, by omega, e⟩
theorem tf_fh_cl {nC : Nat} {su P : Nat → Int32} (hC : nC ≤ 8) (hs : tf_SV nC su) : ∀ n x, tf_cl nC x → tf_fh su P n x = -1 ∨ ∃ h, h < nC ∧ tf_fh su P n x = nI h ∧ ¬ P h = -1 := by
  intro n
  induction n with
  | zero => intro x _; exact Or.inl rfl
  | succ n ih =>
    intro x hx
    simp only [tf_fh]
    rcases hx with e | ⟨c, hc, e⟩
    · rw [if_pos e]; exact Or.inl rfl
    · subst e
      rw [if_neg (tf_m1 (by omega)), nI_clamp (by omega)]
      by_cases p : P c = -1
      · rw [if_pos p]
        exact ih _ (tf_SV_cl hs hc)
      · rw [if_neg p]
        exact Or.inr ⟨c, hc, rfl, p⟩
theorem tf_and0 (e s : Nat) : e &&& 2 ^ s = 0 ↔ e.testBit s = false := by
  constructor
  · intro h
    have h2 : (e &&& 2 ^ s).testBit s = false := by rw [h]; exact Nat.zero_testBit s
    rw [Nat.testBit_and, Nat.testBit_two_pow_self, Bool.and_true] at h2
    exact h2
  · intro h
    apply Nat.eq_of_testBit_eq
    intro i
    rw [Nat.testBit_and, Nat.testBit_two_pow, Nat.zero_testBit]
    by_cases c : s = i
    · subst c
      rw [h, Bool.false_and]
    · rw [decide_eq_false c, Bool.and_false]
theorem tf_or (a b : Nat) : nI a ||| nI b = nI (a ||| b) := by
  apply Int32.toBitVec_inj.1
  show BitVec.ofNat 32 a ||| BitVec.ofNat 32 b = BitVec.ofNat 32 (a ||| b)
  apply BitVec.eq_of_getLsbD_eq
  intro i hi
  simp [hi]
theorem tf_sh1 {s : Nat} (hs : s < 16) : (1 : Int32) <<< (nI s &&& 31) = nI (2 ^ s) := (by decide +kernel : ∀ s, s < 16 → (1 : Int32) <<< (nI s &&& 31) = nI (2 ^ s)) s hs
theorem tf_p16 {n : Nat} (h : n ≤ 16) : 2 ^ n ≤ 65536 := Nat.pow_le_pow_right (n := 2) (by decide) h
theorem tf_bit {e s : Nat} (he : e < 65536) (hs : s < 16) : (nI e &&& ((1 : Int32) <<< (nI s &&& 31))) = 0 ↔ e.testBit s = false := by
  have h1 : e &&& 2 ^ s < 65536 := Nat.lt_of_le_of_lt Nat.and_le_left he
  rw [tf_sh1 hs, nx_and, ← nI_0, nI_eq (by omega) (by omega), tf_and0]
theorem tf_sum1 {e s : Nat} (hs : s < 16) (h : e.testBit s = true) : nI (e % 2 ^ s) + ((1 : Int32) <<< (nI s &&& 31)) = nI (e % 2 ^ (s + 1)) := by
  have h2 : e / 2 ^ s % 2 = 1 := by
    rw [Nat.testBit_eq_decide_div_mod_eq] at h
    exact of_decide_eq_true h
  rw [tf_sh1 hs, nI_add, Nat.mod_pow_succ, h2, Nat.mul_one]
theorem tf_sum0 {e s : Nat} (h : e.testBit s = false) : e % 2 ^ (s + 1) = e % 2 ^ s := by
  have h2 : e / 2 ^ s % 2 = 0 := by
    rw [Nat.testBit_eq_decide_div_mod_eq] at h
    have h3 := of_decide_eq_false h
    generalize e / 2 ^ s = z at h3
    omega
  rw [Nat.mod_pow_succ, h2, Nat.mul_zero, Nat.add_zero]
def tf_EX (nS : Nat) (exX ex : Nat → Int32) : Prop := ∀ k, k < 16 → ∃ e, e < 2 ^ nS ∧ exX k = nI e ∧ ∀ s, s < 16 → ex (k * 16 + s) = if e.testBit s = true then 1 else 0
theorem tf_EX_bit {nS : Nat} {exX ex : Nat → Int32} (hS : nS ≤ 16) (h : tf_EX nS exX ex) {k s : Nat} (hk : k < 16) (hs : s < 16) : (exX k &&& ((1 : Int32) <<< (nI s &&& 31))) = 0 ↔ ex (k * 16 + s) = 0 := by
  obtain ⟨e, he, h1, h2⟩ := h k hk
  have h3 := tf_p16 hS
  rw [h1, h2 s hs, tf_bit (by omega) hs]
  cases e.testBit s
  · exact ⟨fun _ => rfl, fun _ => rfl⟩
  · exact ⟨fun z => absurd z (by decide), fun z => absurd z (by decide)⟩
theorem tf_EX_upd {nS : Nat} {exX ex : Nat → Int32} (hS : nS ≤ 16) (h : tf_EX nS exX ex) {k s : Nat} (hk : k < 16) (hs : s < nS) : tf_EX nS (upd exX k (exX k ||| ((1 : Int32) <<< (nI s &&& 31)))) (upd ex (k * 16 + s) 1) := by
  intro j hj
  obtain ⟨e, he, h1, h2⟩ := h j hj
  by_cases c : j = k
  · subst c
    refine ⟨e ||| 2 ^ s, Nat.or_lt_two_pow he (Nat.pow_lt_pow_right (by decide) hs), ?_, ?_⟩
    · rw [pk_us, h1, tf_sh1 (by omega), tf_or]
    · intro r hr
      rw [Nat.testBit_or, Nat.testBit_two_pow]
      by_cases c2 : r = s
      · subst c2
        rw [pk_us]
        simp
      · rw [pk_un (by omega), h2 r hr, decide_eq_false (fun z => c2 z.symm), Bool.or_false]
  · refine ⟨e, he, ?_, ?_⟩
    · rw [pk_un c, h1]
    · intro r hr
      rw [pk_un (by omega), h2 r hr]
theorem tf_uid {a : Nat → Int32} {i : Nat} {x : Int32} (h : a i = x) : upd a i x = a := by
  funext j
  unfold upd
  split
  · rename_i c
    rw [c, h]
  · rfl
end
section
def tf_LV (nB : Nat) (L : Nat → Int32) : Prop := (∀ b, b < 16 → ∃ l, l ≤ 16 ∧ L b = nI l) ∧ ∀ b, nB ≤ b → b < 16 → L b = 0
def tf_CE (nS nB : Nat) (L op kk : Nat → Int32) : Prop := ∀ b l i, b < nB → l ≤ 16 → L b = nI l → i < l → ∃ o, o ≤ 8 ∧ op (b * 16 + i) = nI o ∧ ((o = 6 ∨ o = 7) → ∃ s, s < nS ∧ kk (b * 16 + i) = nI s)
def tf_AF (nK : Nat) (al xe : Nat → Int32) : Prop := ∀ k, nK ≤ k → k < 16 → xe k = 0 ∧ ∀ s, s < 16 → al (k * 16 + s) = -1
def tf_FL (nC nT nS nK : Nat) (own ow tr ex al fl : Nat → Int32) : Prop := ∀ o s, (o < nC ∨ (8 ≤ o ∧ o < 8 + nT)) → s < nS → fl (o * 16 + s) = tf_PR own ow tr ex al nK o s
def tf_NU (nC nT nS nD nB nK : Nat) : Prop := (1 ≤ nC ∧ nC ≤ 8) ∧ (1 ≤ nT ∧ nT ≤ 8) ∧ (1 ≤ nS ∧ nS ≤ 16) ∧ (1 ≤ nD ∧ nD ≤ 16) ∧ nB ≤ 16 ∧ nK ≤ 16
def tf_Ok (nC nT nS nD nB nK : Nat) (L op kk su own ow tr xe ex al fl : Nat → Int32) : Prop := tf_NU nC nT nS nD nB nK ∧ tf_LV nB L ∧ tf_CE nS nB L op kk ∧ tf_SV nC su ∧ tf_OV nB own ∧ tf_CV nT nS nK ow tr al ∧ tf_AF nK al xe ∧ tf_EX nS xe ex ∧ tf_FL nC nT nS nK own ow tr ex al fl
theorem tf_OV_mono {nB : Nat} {own : Nat → Int32} (h : tf_OV nB own) : tf_OV (nB + 1) own := by
  intro i hi
  rcases h i hi with e | ⟨b, hb, e⟩
  · exact Or.inl e
  · exact Or.inr ⟨b, by omega, e⟩
theorem tf_CE_begin {nS nB : Nat} {L op kk : Nat → Int32} (hB : nB < 16) (hL : tf_LV nB L) (h : tf_CE nS nB L op kk) : tf_CE nS (nB + 1) L op kk := by
  intro b l i h1 h2 h3 h4
  by_cases c : b < nB
  · exact h b l i c h2 h3 h4
  · have e : b = nB := by omega
    subst e
    have e2 := hL.2 b (Nat.le_refl _) hB
    rw [e2, ← nI_0] at h3
    have e3 := (nI_eq (by omega) (by omega)).mp h3
    omega
theorem tf_LV_begin {nB : Nat} {L : Nat → Int32} (h : tf_LV nB L) : tf_LV (nB + 1) L := ⟨h.1, fun b hb => h.2 b (by omega)⟩
theorem tf_LV_emit {nB : Nat} {L : Nat → Int32} (h : tf_LV nB L) {b l : Nat} (hb : b < nB) (hl : l < 16) : tf_LV nB (upd L b (nI (l + 1))) := by
  constructor
  · intro c hc
    by_cases e : c = b
    · subst e
      exact ⟨l + 1, by omega, pk_us⟩
    · rw [pk_un e]
      exact h.1 c hc
  · intro c hc h16
    rw [pk_un (by omega)]
    exact h.2 c hc h16
theorem tf_CE_emit {nS nB : Nat} {L op kk : Nat → Int32} (h : tf_CE nS nB L op kk) {b l o : Nat} {k : Int32} (hb : b < nB) (hl : l < 16) (e : L b = nI l) (ho : o ≤ 8) (hk : (o = 6 ∨ o = 7) → ∃ s, s < nS ∧ k = nI s) : tf_CE nS nB (upd L b (nI (l + 1))) (upd op (b * 16 + l) (nI o)) (upd kk (b * 16 + l) k) := by
  intro b' l' i h1 h2 h3 h4
  by_cases c : b' = b
  · subst c
    rw [pk_us] at h3
    have e2 : l + 1 = l' := (nI_eq (by omega) (by omega)).mp h3
    by_cases c2 : i = l
    · subst c2
      rw [pk_us, pk_us]
      exact ⟨o, ho, rfl, hk⟩
    · rw [pk_un (by omega), pk_un (by omega)]
      exact h b' l i h1 (by omega) e (by omega)
  · rw [pk_un c] at h3
    rw [pk_un (by omega), pk_un (by omega)]
    exact h b' l' i h1 h2 h3 h4
theorem tf_SV_set {nC : Nat} {su : Nat → Int32} (h : tf_SV nC su) {c : Nat} {x : Int32} (hx : x = -1 ∨ ∃ d, d < c ∧ x = nI d) : tf_SV nC (upd su c x) := by
  intro j hj
  by_cases e : j = c
  · subst e
    rw [pk_us]
    exact hx
  · rw [pk_un e]
    exact h j hj
theorem tf_OV_set {nB : Nat} {own : Nat → Int32} (h : tf_OV nB own) {i : Nat} {x : Int32} (hx : x = -1 ∨ ∃ b, b < nB ∧ x = nI b) : tf_OV nB (upd own i x) := by
  intro j hj
  by_cases e : j = i
  · subst e
    rw [pk_us]
    exact hx
  · rw [pk_un e]
    exact h j hj
theorem tf_CV_use {nT nS nK : Nat} {ow tr al : Nat → Int32} (hS : nS ≤ 16) (h : tf_CV nT nS nK ow tr al) (hf : ∀ s, s < 16 → al (nK * 16 + s) = -1) {o u : Nat} (ho : o < 16) (hu : u < nT) (hou : 8 ≤ o → u + 8 < o) : tf_CV nT nS (nK + 1) (upd ow nK (nI o)) (upd tr nK (nI u)) al := by
  intro k hk
  by_cases c : k = nK
  · subst c
    exact ⟨o, u, pk_us, pk_us, ho, hu, hou, fun s hs => Or.inl (hf s (by omega))⟩
  · rw [pk_un c, pk_un c]
    exact h k (by omega)
theorem tf_CV_alias {nT nS nK : Nat} {ow tr al : Nat → Int32} (h : tf_CV nT nS nK ow tr al) {i r : Nat} (hr : r < nS) : tf_CV nT nS nK ow tr (upd al i (nI r)) := by
  intro j hj
  obtain ⟨o, u, h1, h2, h3, h4, h5, h6⟩ := h j hj
  refine ⟨o, u, h1, h2, h3, h4, h5, fun s hs => ?_⟩
  by_cases c : j * 16 + s = i
  · rw [c, pk_us]
    exact Or.inr ⟨r, hr, rfl⟩
  · rw [pk_un c]
    exact h6 s hs
theorem tf_AF_use {nK : Nat} {al xe : Nat → Int32} (h : tf_AF nK al xe) : tf_AF (nK + 1) al xe := fun k hk => h k (by omega)
theorem tf_AF_alias {nK : Nat} {al xe : Nat → Int32} (h : tf_AF nK al xe) {k n : Nat} {x : Int32} (hk : k < nK) (hn : n < 16) : tf_AF nK (upd al (k * 16 + n) x) xe := by
  intro j hj h16
  refine ⟨(h j hj h16).1, fun s hs => ?_⟩
  rw [pk_un (by omega)]
  exact (h j hj h16).2 s hs
theorem tf_AF_excl {nK : Nat} {al xe : Nat → Int32} (h : tf_AF nK al xe) {k : Nat} {x : Int32} (hk : k < nK) : tf_AF nK al (upd xe k x) := by
  intro j hj h16
  rw [pk_un (by omega)]
  exact h j hj h16
theorem tf_ex0 {nS nK : Nat} {al xe ex : Nat → Int32} (hS : nS ≤ 16) (h : tf_EX nS xe ex) (hf : tf_AF nK al xe) {k s : Nat} (hk : nK ≤ k) (h16 : k < 16) (hs : s < 16) : ex (k * 16 + s) = 0 := by
  have h3 := tf_EX_bit hS h h16 hs
  rw [(hf k hk h16).1] at h3
  refine h3.mp ?_
  have h4 := (tf_bit (e := 0) (by omega) hs).mpr (Nat.zero_testBit s)
  rw [nI_0] at h4
  exact h4
def tf_in (c : Int32) (n : Nat) : Prop := ∃ j, j < n ∧ c = nI j
theorem tf_ge0 {c : Int32} {n : Nat} (hn : n < 2 ^ 31) (h : nI n ≤ c) : ¬ c < 0 := fun z => Int32.lt_irrefl (Int32.lt_of_lt_of_le (Int32.lt_of_lt_of_le z (nI_pos' hn)) h)
theorem tf_neg {n : Nat} (hn : n < 2 ^ 31) : ¬ nI n < 0 := nI_pos hn
theorem tf_nin {c : Int32} {n : Nat} (hn : n < 2 ^ 31) (h : ¬ tf_in c n) : c < 0 ∨ (¬ c < 0 ∧ nI n ≤ c ∧ ¬ c < nI n) := by
  rcases pk_ix c hn with a | a | a
  · exact Or.inl a
  · exact Or.inr ⟨tf_ge0 hn a, a, Int32.not_lt.mpr a⟩
  · exact absurd a h
theorem tf_r1t {c : Int32} {n : Nat} {A B C : Prop} (hn : n < 2 ^ 31) (h : tf_in c n) (b : B) : (c < 0 → A) ∧ (¬ c < 0 → ((nI n ≤ c → C) ∧ (¬ nI n ≤ c → B))) := by
  obtain ⟨j, hj, rfl⟩ := h
  exact br_f (nI_pos (by omega)) (br_f (nI_ge hj hn) b)
theorem tf_r1f {c : Int32} {n : Nat} {A B : Prop} (hn : n < 2 ^ 31) (h : ¬ tf_in c n) (a : A) : (c < 0 → A) ∧ (¬ c < 0 → ((nI n ≤ c → A) ∧ (¬ nI n ≤ c → B))) := by
  rcases tf_nin hn h with e | ⟨e1, e2, e3⟩
  · exact br_t e a
  · exact br_f e1 (br_t e2 a)
theorem tf_r2t {c : Int32} {n : Nat} {A B C : Prop} (hn : n < 2 ^ 31) (h : tf_in c n) (b : B) : (c < 0 → A) ∧ (¬ c < 0 → ((c < nI n → B) ∧ (¬ c < nI n → C))) := by
  obtain ⟨j, hj, rfl⟩ := h
  exact br_f (nI_pos (by omega)) (br_t (nI_lt hj hn) b)
theorem tf_r2f {c : Int32} {n : Nat} {A B : Prop} (hn : n < 2 ^ 31) (h : ¬ tf_in c n) (a : A) : (c < 0 → A) ∧ (¬ c < 0 → ((c < nI n → B) ∧ (¬ c < nI n → A))) := by
  rcases tf_nin hn h with e | ⟨e1, e2, e3⟩
  · exact br_t e a
  · exact br_f e1 (br_f e3 a)
theorem tf_not {p q : Prop} (h : q → p) (hp : ¬ p) : ¬ q := fun z => hp (h z)
def tf_ow (c : Int32) (nC nT : Nat) : Prop := ∃ j, (j < nC ∨ (8 ≤ j ∧ j < 8 + nT)) ∧ c = nI j
theorem tf_ow_not {c : Int32} {nC nT : Nat} (hC : nC ≤ 8) (hT : nT ≤ 8) (h : ¬ tf_ow c nC nT) : ¬ tf_in c nC ∧ (c < 8 ∨ (¬ c < 8 ∧ nI (8 + nT) ≤ c ∧ ¬ c < nI (8 + nT))) := by
  refine ⟨fun ⟨j, hj, e⟩ => h ⟨j, Or.inl hj, e⟩, ?_⟩
  have h8 : nI 8 = 8 := rfl
  rcases pk_ix c (n := 8 + nT) (by omega) with a | a | ⟨j, hj, e⟩
  · left
    exact Int32.lt_of_lt_of_le a (by decide)
  · right
    refine ⟨?_, a, Int32.not_lt.mpr a⟩
    rw [Int32.not_lt, ← h8]
    exact Int32.le_trans (nI_le (by omega) (by omega)) a
  · left
    subst e
    rw [← h8, nI_ltI (by omega) (by omega)]
    rcases Nat.lt_or_ge j 8 with c | c
    · exact c
    · exact absurd ⟨j, Or.inr ⟨c, hj⟩, rfl⟩ h
theorem tf_ow_hi {j nC : Nat} (hC : nC ≤ 8) (h : 8 ≤ j) (h2 : j < 16) : ¬ tf_in (nI j) nC := by
  intro ⟨i, hi, e⟩
  have := (nI_eq (by omega) (by omega)).mp e
  omega
end
section
theorem tf_mg_n (a : Int32) : tf_mg a (-1) = a := if_pos rfl
theorem tf_ix (b i : Nat) : nI b * 16 + nI i = nI (b * 16 + i) := by
  show nI b * nI 16 + nI i = _
  rw [pk_mul, nI_add]
def tf_ini (n : Nat) : Nat → Int32 := fun i => if i < n then -1 else 0
theorem tf_ini_0 : tf_ini 0 = fun _ => 0 := by
  funext i
  exact if_neg (by omega)
theorem tf_ini_s (n : Nat) : upd (tf_ini n) n (-1) = tf_ini (n + 1) := by
  funext i
  unfold upd tf_ini
  by_cases c : i = n
  · rw [if_pos c, if_pos (by omega)]
  · rw [if_neg c]
    by_cases c2 : i < n
    · rw [if_pos c2, if_pos (by omega)]
    · rw [if_neg c2, if_neg (by omega)]
theorem tf_ini_lt {n i : Nat} (h : i < n) : tf_ini n i = -1 := if_pos h
def tf_cp (v : Int32) (g : Nat) : Nat := if v < 1 then 1 else if nI g < v then g else v.toNatClampNeg
theorem tf_cp_in (v : Int32) {g : Nat} (h1 : 1 ≤ g) (hg : g < 2 ^ 31) : 1 ≤ tf_cp v g ∧ tf_cp v g ≤ g := by
  unfold tf_cp
  by_cases c : v < 1
  · rw [if_pos c]; omega
  · rw [if_neg c]
    by_cases c2 : nI g < v
    · rw [if_pos c2]; omega
    · rw [if_neg c2]
      rw [Int32.lt_iff_toInt_lt, show (1 : Int32).toInt = 1 from by decide] at c
      rw [Int32.lt_iff_toInt_lt, nI_toInt hg] at c2
      have e : v.toNatClampNeg = v.toInt.toNat := rfl
      rw [e]
      omega
theorem tf_cp_v {v : Int32} {g : Nat} (c : ¬ v < 1) (c2 : ¬ nI g < v) : nI (tf_cp v g) = v := by
  unfold tf_cp
  rw [if_neg c, if_neg c2]
  have h0 : ¬ v < 0 := by
    intro z
    rw [Int32.lt_iff_toInt_lt, show (1 : Int32).toInt = 1 from by decide] at c
    rw [Int32.lt_iff_toInt_lt, show (0 : Int32).toInt = 0 from by decide] at z
    omega
  obtain ⟨j, hj, rfl⟩ := nI_of h0
  rw [nI_clamp hj]
theorem tf_cp_1 {v : Int32} {g : Nat} (c : v < 1) : nI (tf_cp v g) = 1 := by
  unfold tf_cp
  rw [if_pos c]
  rfl
theorem tf_cp_g {v : Int32} {g : Nat} (c : ¬ v < 1) (c2 : nI g < v) : nI (tf_cp v g) = nI g := by
  unfold tf_cp
  rw [if_neg c, if_pos c2]
theorem tf_ok0 {nC nT nS nD : Nat} (hC : 1 ≤ nC ∧ nC ≤ 8) (hT : 1 ≤ nT ∧ nT ≤ 8) (hS : 1 ≤ nS ∧ nS ≤ 16) (hD : 1 ≤ nD ∧ nD ≤ 16) : tf_Ok nC nT nS nD 0 0 (fun _ => 0) (fun _ => 0) (fun _ => 0) (tf_ini 8) (tf_ini 256) (fun _ => 0) (fun _ => 0) (fun _ => 0) (fun _ => 0) (tf_ini 256) (tf_ini 256) := by
  refine ⟨⟨hC, hT, hS, hD, by omega, by omega⟩, ⟨fun b _ => ⟨0, by omega, rfl⟩, fun b _ _ => rfl⟩, fun b l i h => absurd h (by omega), fun c hc => Or.inl (tf_ini_lt (by omega)), fun i hi => Or.inl (tf_ini_lt hi), fun k hk => absurd hk (by omega), fun k _ hk => ⟨rfl, fun s hs => tf_ini_lt (by omega)⟩, fun k hk => ⟨0, Nat.two_pow_pos _, rfl, fun s hs => ?_⟩, fun o s ho hs => ?_⟩
  · rw [Nat.zero_testBit]
    rfl
  · have h : o * 16 + s < 256 := by omega
    rw [tf_ini_lt h]
    unfold tf_PR tf_pf
    rw [if_pos (tf_ini_lt h)]
    rfl
end
section
theorem tf_8 (n : Nat) : (8 : Int32) + nI n = nI (8 + n) := nI_add 8 n
theorem tf_16 (n : Nat) : (16 : Int32) + nI n = nI (16 + n) := nI_add 16 n
theorem tx_isClass_t {nC nT nS nD nB nK : Nat} {ls rr rc sp fc : Int32} {L op kk su own ow tr xe al fl fA fC fT fP fB fH : Nat → Int32} {post : Int32 → Prop} {c : Int32} (hC : nC ≤ 8) (h : tf_in c nC) (p : post 1) : wpX_isClass post (nI nC, nI nT, nI nS, nI nD, nI nB, nI nK, ls, rr, rc, sp, fc, L, op, kk, su, own, ow, tr, xe, al, fl, fA, fC, fT, fP, fB, fH) c := tf_r1t (by omega) h p
theorem tx_isClass_f {nC nT nS nD nB nK : Nat} {ls rr rc sp fc : Int32} {L op kk su own ow tr xe al fl fA fC fT fP fB fH : Nat → Int32} {post : Int32 → Prop} {c : Int32} (hC : nC ≤ 8) (h : ¬ tf_in c nC) (p : post 0) : wpX_isClass post (nI nC, nI nT, nI nS, nI nD, nI nB, nI nK, ls, rr, rc, sp, fc, L, op, kk, su, own, ow, tr, xe, al, fl, fA, fC, fT, fP, fB, fH) c := tf_r1f (by omega) h p
theorem tx_isSelector_t {nC nT nS nD nB nK : Nat} {ls rr rc sp fc : Int32} {L op kk su own ow tr xe al fl fA fC fT fP fB fH : Nat → Int32} {post : Int32 → Prop} {c : Int32} (hC : nS ≤ 16) (h : tf_in c nS) (p : post 1) : wpX_isSelector post (nI nC, nI nT, nI nS, nI nD, nI nB, nI nK, ls, rr, rc, sp, fc, L, op, kk, su, own, ow, tr, xe, al, fl, fA, fC, fT, fP, fB, fH) c := tf_r1t (by omega) h p
theorem tx_isSelector_f {nC nT nS nD nB nK : Nat} {ls rr rc sp fc : Int32} {L op kk su own ow tr xe al fl fA fC fT fP fB fH : Nat → Int32} {post : Int32 → Prop} {c : Int32} (hC : nS ≤ 16) (h : ¬ tf_in c nS) (p : post 0) : wpX_isSelector post (nI nC, nI nT, nI nS, nI nD, nI nB, nI nK, ls, rr, rc, sp, fc, L, op, kk, su, own, ow, tr, xe, al, fl, fA, fC, fT, fP, fB, fH) c := tf_r1f (by omega) h p
theorem tx_isBody_t {nC nT nS nD nB nK : Nat} {ls rr rc sp fc : Int32} {L op kk su own ow tr xe al fl fA fC fT fP fB fH : Nat → Int32} {post : Int32 → Prop} {c : Int32} (hC : nB ≤ 16) (h : tf_in c nB) (p : post 1) : wpX_isBody post (nI nC, nI nT, nI nS, nI nD, nI nB, nI nK, ls, rr, rc, sp, fc, L, op, kk, su, own, ow, tr, xe, al, fl, fA, fC, fT, fP, fB, fH) c := tf_r1t (by omega) h p
theorem tx_isBody_f {nC nT nS nD nB nK : Nat} {ls rr rc sp fc : Int32} {L op kk su own ow tr xe al fl fA fC fT fP fB fH : Nat → Int32} {post : Int32 → Prop} {c : Int32} (hC : nB ≤ 16) (h : ¬ tf_in c nB) (p : post 0) : wpX_isBody post (nI nC, nI nT, nI nS, nI nD, nI nB, nI nK, ls, rr, rc, sp, fc, L, op, kk, su, own, ow, tr, xe, al, fl, fA, fC, fT, fP, fB, fH) c := tf_r1f (by omega) h p
theorem tx_isComponent_t {nC nT nS nD nB nK : Nat} {ls rr rc sp fc : Int32} {L op kk su own ow tr xe al fl fA fC fT fP fB fH : Nat → Int32} {post : Int32 → Prop} {c : Int32} (hC : nK ≤ 16) (h : tf_in c nK) (p : post 1) : wpX_isComponent post (nI nC, nI nT, nI nS, nI nD, nI nB, nI nK, ls, rr, rc, sp, fc, L, op, kk, su, own, ow, tr, xe, al, fl, fA, fC, fT, fP, fB, fH) c := tf_r1t (by omega) h p
theorem tx_isComponent_f {nC nT nS nD nB nK : Nat} {ls rr rc sp fc : Int32} {L op kk su own ow tr xe al fl fA fC fT fP fB fH : Nat → Int32} {post : Int32 → Prop} {c : Int32} (hC : nK ≤ 16) (h : ¬ tf_in c nK) (p : post 0) : wpX_isComponent post (nI nC, nI nT, nI nS, nI nD, nI nB, nI nK, ls, rr, rc, sp, fc, L, op, kk, su, own, ow, tr, xe, al, fl, fA, fC, fT, fP, fB, fH) c := tf_r1f (by omega) h p
theorem tx_isOwner_t {nC nT nS nD nB nK : Nat} {ls rr rc sp fc : Int32} {L op kk su own ow tr xe al fl fA fC fT fP fB fH : Nat → Int32} {post : Int32 → Prop} {c : Int32} (hC : nC ≤ 8) (hT : nT ≤ 8) (h : tf_ow c nC nT) (p : post 1) : wpX_isOwner post (nI nC, nI nT, nI nS, nI nD, nI nB, nI nK, ls, rr, rc, sp, fc, L, op, kk, su, own, ow, tr, xe, al, fl, fA, fC, fT, fP, fB, fH) c := by
  obtain ⟨j, hj, rfl⟩ := h
  unfold wpX_isOwner
  by_cases h1 : j < nC
  · exact tx_isClass_t hC ⟨j, h1, rfl⟩ (br_f (by decide) p)
  · have h2 : 8 ≤ j ∧ j < 8 + nT := by omega
    refine tx_isClass_f hC (tf_ow_hi hC h2.1 (by omega)) (br_t rfl (br_f (nI_nlt (b := 8) h2.1 (by omega)) (br_f ?_ p)))
    rw [tf_8]
    exact nI_ge h2.2 (by omega)
theorem tx_isOwner_f {nC nT nS nD nB nK : Nat} {ls rr rc sp fc : Int32} {L op kk su own ow tr xe al fl fA fC fT fP fB fH : Nat → Int32} {post : Int32 → Prop} {c : Int32} (hC : nC ≤ 8) (hT : nT ≤ 8) (h : ¬ tf_ow c nC nT) (p : post 0) : wpX_isOwner post (nI nC, nI nT, nI nS, nI nD, nI nB, nI nK, ls, rr, rc, sp, fc, L, op, kk, su, own, ow, tr, xe, al, fl, fA, fC, fT, fP, fB, fH) c := by
  obtain ⟨h1, h2⟩ := tf_ow_not hC hT h
  unfold wpX_isOwner
  refine tx_isClass_f hC h1 (br_t rfl ?_)
  rcases h2 with a | ⟨a, b, _⟩
  · exact br_t a p
  · rw [← tf_8] at b
    exact br_f a (br_t b p)
theorem tx_merge {post : Int32 → Prop} {a b : Int32} (p : post (tf_mg a b)) : wpX_merge post () a b := by
  unfold tf_mg at p
  by_cases c : b = -1
  · rw [if_pos c] at p
    exact br_t c p
  · rw [if_neg c] at p
    by_cases c2 : b = a
    · rw [if_pos c2] at p
      exact br_f c (br_t c2 p)
    · rw [if_neg c2] at p
      by_cases c3 : a = -1
      · rw [if_pos c3] at p
        exact br_f c (br_f c2 (br_t c3 p))
      · rw [if_neg c3] at p
        exact br_f c (br_f c2 (br_f c3 p))
theorem tf_tix (u s : Nat) : ((8 : Int32) + nI u) * 16 + nI s = nI (128 + (u * 16 + s)) := by
  rw [tf_8, tf_ix]
  exact congrArg nI (by omega)
theorem tx_direct {nC nT nS nD nB nK : Nat} {ls rr rc sp fc : Int32} {L op kk su own ow tr xe al fl fA fC fT fP fB fH : Nat → Int32} {ex : Nat → Int32} {post : Int32 → Prop} (hS : nS ≤ 16) (hE : tf_EX nS xe ex) {k s u : Nat} (hk : k < 16) (hs : s < 16) (hu : u < 8) (e : tr k = nI u) (p : post (tf_dc tr ex (fun i => fl (128 + i)) k s)) : wpX_directContribution post (nI nC, nI nT, nI nS, nI nD, nI nB, nI nK, ls, rr, rc, sp, fc, L, op, kk, su, own, ow, tr, xe, al, fl, fA, fC, fT, fP, fB, fH) (nI k) (nI s) := by
  unfold wpX_directContribution
  dsimp only
  rw [nI_clamp (show k < 2 ^ 31 by omega), e, tf_tix, nI_clamp (show 128 + (u * 16 + s) < 2 ^ 31 by omega)]
  unfold tf_dc at p
  rw [e, nI_clamp (show u < 2 ^ 31 by omega)] at p
  refine ⟨vp_in_nI hk (by omega), ?_⟩
  have hb := tf_EX_bit hS hE hk hs
  by_cases c : ex (k * 16 + s) = 0
  · rw [if_pos c] at p
    exact br_t (hb.mpr c) ⟨vp_in_nI hk (by omega), vp_in_nI (by omega) (by omega), p⟩
  · rw [if_neg c] at p
    exact br_f (fun z => c (hb.mp z)) p
theorem tx_aliasC {nC nT nS nD nB nK : Nat} {ls rr rc sp fc : Int32} {L op kk su own ow tr xe al fl fA fC fT fP fB fH : Nat → Int32} {post : Int32 → Prop} {k s u : Nat} (hk : k < 16) (hs : s < 16) (hu : u < 8) (e : tr k = nI u) (ha : al (k * 16 + s) = -1 ∨ ∃ r, r < 16 ∧ al (k * 16 + s) = nI r) (p : post (tf_ac tr al (fun i => fl (128 + i)) k s)) : wpX_aliasContribution post (nI nC, nI nT, nI nS, nI nD, nI nB, nI nK, ls, rr, rc, sp, fc, L, op, kk, su, own, ow, tr, xe, al, fl, fA, fC, fT, fP, fB, fH) (nI k) (nI s) := by
  unfold wpX_aliasContribution
  dsimp only
  rw [tf_ix, nI_clamp (show k * 16 + s < 2 ^ 31 by omega), nI_clamp (show k < 2 ^ 31 by omega)]
  unfold tf_ac at p
  refine ⟨vp_in_nI (by omega) (by omega), ?_⟩
  rcases ha with a | ⟨r, hr, a⟩
  · rw [if_pos a] at p
    exact nm_r a (br_t rfl p)
  · rw [a, if_neg (tf_m1 (by omega)), e, nI_clamp (show u < 2 ^ 31 by omega), nI_clamp (show r < 2 ^ 31 by omega)] at p
    refine nm_r a (br_f (tf_m1 (by omega)) ⟨vp_in_nI hk (by omega), ?_⟩)
    rw [e, tf_tix, nI_clamp (show 128 + (u * 16 + r) < 2 ^ 31 by omega)]
    exact ⟨vp_in_nI (by omega) (by omega), p⟩
theorem tx_sum {nC nT nS nD nB nK : Nat} {ls rr rc sp fc : Int32} {L op kk su own ow tr xe al fl fA fC fT fP fB fH : Nat → Int32} {ex : Nat → Int32} {post : Int32 → Prop} (hS : nS ≤ 16) (hT : nT ≤ 8) (hK : nK ≤ 16) (hE : tf_EX nS xe ex) (hV : tf_CV nT nS nK ow tr al) {o s : Nat} (ho : o < 16) (hs : s < nS) (p : post (tf_cs ow tr ex al (fun i => fl (128 + i)) o s nK)) : wpX_sumOfComponents post (nI nC, nI nT, nI nS, nI nD, nI nB, nI nK, ls, rr, rc, sp, fc, L, op, kk, su, own, ow, tr, xe, al, fl, fA, fC, fT, fP, fB, fH) (nI o) (nI s) := by
  have main : ∀ d k, k + d = nK → wX_sumOfComponents_5 post (nI o) (nI s) (nI nC) (nI nT) (nI nS) (nI nD) (nI nB) (nI nK) ls rr rc sp fc L op kk su own ow tr xe al fl fA fC fT fP fB fH (d + 1) (tf_cs ow tr ex al (fun i => fl (128 + i)) o s k) (nI k) := by
    intro d
    induction d with
    | zero =>
      intro k hk
      have e : k = nK := by omega
      rw [e]
      exact br_t Int32.le_rfl p
    | succ d ih =>
      intro k hk
      have t := ih (k + 1) (by omega)
      obtain ⟨o', u, h1, h2, h3, h4, h5, h6⟩ := hV k (by omega)
      have ha : al (k * 16 + s) = -1 ∨ ∃ r, r < 16 ∧ al (k * 16 + s) = nI r := by
        rcases h6 s hs with a | ⟨r, hr, a⟩
        · exact Or.inl a
        · exact Or.inr ⟨r, by omega, a⟩
      refine br_f (nI_ge (by omega) (by omega)) ⟨vp_in_nI (by omega) (by omega), ?_⟩
      rw [nI_clamp (show k < 2 ^ 31 by omega)]
      simp only [tf_cs] at t
      by_cases c : ow k = nI o
      · rw [if_pos c] at t
        exact br_t c (tx_direct hS hE (by omega) (by omega) (by omega) h2 (tx_merge (tx_aliasC (by omega) (by omega) (by omega) h2 ha (tx_merge (nm_r (nI_1 k) t)))))
      · rw [if_neg c] at t
        exact br_f c (nm_r (nI_1 k) t)
  exact ⟨nK + 1, main nK 0 (by omega)⟩
theorem tx_flattenOwner {nC nT nS nD nB nK : Nat} {ls rr rc sp fc : Int32} {L op kk su own ow tr xe al fl fA fC fT fP fB fH : Nat → Int32} {ex : Nat → Int32} {post : St2 → Prop} (hS : nS ≤ 16) (hT : nT ≤ 8) (hK : nK ≤ 16) (hE : tf_EX nS xe ex) (hV : tf_CV nT nS nK ow tr al) {o : Nat} (ho : o < 16) (h : ∀ u r, u < nT → (8 ≤ o → u + 8 < o) → r < nS → fl (128 + (u * 16 + r)) = tf_pv own ow tr ex al nK (u * 16 + r)) (p : ∀ g : Nat → Int32, (∀ s, s < nS → g (o * 16 + s) = tf_PR own ow tr ex al nK o s) → (∀ i, i / 16 ≠ o → g i = fl i) → post (nI nC, nI nT, nI nS, nI nD, nI nB, nI nK, ls, rr, rc, sp, fc, L, op, kk, su, own, ow, tr, xe, al, g, fA, fC, fT, fP, fB, fH)) : wpX_flattenOwner post (nI nC, nI nT, nI nS, nI nD, nI nB, nI nK, ls, rr, rc, sp, fc, L, op, kk, su, own, ow, tr, xe, al, fl, fA, fC, fT, fP, fB, fH) (nI o) := by
  have main : ∀ d j (g : Nat → Int32), j + d = nS → (∀ s, s < j → g (o * 16 + s) = tf_PR own ow tr ex al nK o s) → (∀ i, i / 16 ≠ o → g i = fl i) → wX_flattenOwner_2 post (nI o) (nI nC) (nI nT) (nI nS) (nI nD) (nI nB) (nI nK) ls rr rc sp fc (d + 1) (nI j) L op kk su own ow tr xe al g fA fC fT fP fB fH := by
    intro d
    induction d with
    | zero =>
      intro j g hj h1 h2
      have e : j = nS := by omega
      rw [e] at h1
      rw [e]
      exact br_t Int32.le_rfl (p g h1 h2)
    | succ d ih =>
      intro j g hj h1 h2
      have hd : tf_pf own ow tr ex al (fun i => g (128 + i)) nK o j = tf_PR own ow tr ex al nK o j := by
        refine tf_pf_congr hT hS hV ho (by omega) (fun u r hu h8 hr => ?_)
        show g (128 + (u * 16 + r)) = _
        rw [h2 _ (by omega), h u r hu h8 hr]
      have st : ∀ x, x = tf_PR own ow tr ex al nK o j → wX_flattenOwner_2 post (nI o) (nI nC) (nI nT) (nI nS) (nI nD) (nI nB) (nI nK) ls rr rc sp fc (d + 1) (nI (j + 1)) L op kk su own ow tr xe al (upd g (o * 16 + j) x) fA fC fT fP fB fH := by
        intro x hx
        refine ih (j + 1) _ (by omega) (fun s hs => ?_) (fun i hi => ?_)
        · by_cases c : s = j
          · rw [c, pk_us, hx]
          · rw [pk_un (by omega)]
            exact h1 s (by omega)
        · rw [pk_un (by omega)]
          exact h2 i hi
      refine br_f (nI_ge (by omega) (by omega)) (nm_r (tf_ix o j) ⟨vp_in_nI (by omega) (by omega), ?_⟩)
      rw [nI_clamp (show o * 16 + j < 2 ^ 31 by omega)]
      unfold tf_pf at hd
      by_cases c : own (o * 16 + j) = -1
      · rw [if_pos c] at hd
        exact nm_r c (br_t rfl (tx_sum hS hT hK hE hV ho (by omega) ⟨vp_in_nI (by omega) (by omega), nm_e (nm_r (nI_1 j) (st _ hd))⟩))
      · rw [if_neg c] at hd
        exact nm_e (br_f c ⟨vp_in_nI (by omega) (by omega), nm_e (nm_r (nI_1 j) (st _ hd))⟩)
  exact ⟨nS + 1, main nS 0 fl (by omega) (fun s hs => absurd hs (by omega)) (fun i _ => rfl)⟩
theorem tx_flattenAll {nC nT nS nD nB nK : Nat} {ls rr rc sp fc : Int32} {L op kk su own ow tr xe al fl fA fC fT fP fB fH : Nat → Int32} {ex : Nat → Int32} {post : St2 → Prop} (hC : nC ≤ 8) (hS : nS ≤ 16) (hT : nT ≤ 8) (hK : nK ≤ 16) (hE : tf_EX nS xe ex) (hV : tf_CV nT nS nK ow tr al) (p : ∀ g : Nat → Int32, tf_FL nC nT nS nK own ow tr ex al g → post (nI nC, nI nT, nI nS, nI nD, nI nB, nI nK, ls, rr, rc, sp, fc, L, op, kk, su, own, ow, tr, xe, al, g, fA, fC, fT, fP, fB, fH)) : wpX_flattenAll post (nI nC, nI nT, nI nS, nI nD, nI nB, nI nK, ls, rr, rc, sp, fc, L, op, kk, su, own, ow, tr, xe, al, fl, fA, fC, fT, fP, fB, fH) := by
  have cl : ∀ d c (g : Nat → Int32), c + d = nC → (∀ t s, t < nT → s < nS → g (128 + (t * 16 + s)) = tf_pv own ow tr ex al nK (t * 16 + s)) → (∀ c' s, c' < c → s < nS → g (c' * 16 + s) = tf_PR own ow tr ex al nK c' s) → wX_flattenAll_26 post (d + 1) (nI c) (nI nC) (nI nT) (nI nS) (nI nD) (nI nB) (nI nK) ls rr rc sp fc L op kk su own ow tr xe al g fA fC fT fP fB fH := by
    intro d
    induction d with
    | zero =>
      intro c g hc h1 h2
      have e : c = nC := by omega
      rw [e] at h2
      rw [e]
      refine br_t Int32.le_rfl (p g (fun o s ho hs => ?_))
      rcases ho with ho | ⟨h8, ho⟩
      · exact h2 o s ho hs
      · obtain ⟨t, rfl⟩ : ∃ t, o = 8 + t := ⟨o - 8, by omega⟩
        rw [tf_PR_tr hT hS hV (by omega) hs, show (8 + t) * 16 + s = 128 + (t * 16 + s) by omega]
        exact h1 t s (by omega) hs
    | succ d ih =>
      intro c g hc h1 h2
      refine br_f (nI_ge (by omega) (by omega)) (tx_flattenOwner hS hT hK hE hV (by omega) (fun u r hu _ hr => h1 u r hu hr) (fun g' h3 h4 => nm_r (nI_1 c) (ih (c + 1) g' (by omega) (fun t s ht hs => ?_) (fun c' s hc' hs => ?_))))
      · rw [h4 _ (by omega)]
        exact h1 t s ht hs
      · by_cases e : c' = c
        · rw [e]
          exact h3 s hs
        · rw [h4 _ (by omega)]
          exact h2 c' s (by omega) hs
  have tl : ∀ d t (g : Nat → Int32), t + d = nT → (∀ t' s, t' < t → s < nS → g (128 + (t' * 16 + s)) = tf_pv own ow tr ex al nK (t' * 16 + s)) → wX_flattenAll_2 post (d + 1) (nI t) (nI nC) (nI nT) (nI nS) (nI nD) (nI nB) (nI nK) ls rr rc sp fc L op kk su own ow tr xe al g fA fC fT fP fB fH := by
    intro d
    induction d with
    | zero =>
      intro t g ht h1
      have e : t = nT := by omega
      rw [e] at h1
      rw [e]
      exact br_t Int32.le_rfl ⟨nC + 1, cl nC 0 g (by omega) h1 (fun c' s hc' => absurd hc' (by omega))⟩
    | succ d ih =>
      intro t g ht h1
      refine br_f (nI_ge (by omega) (by omega)) ?_
      rw [tf_8 t]
      refine tx_flattenOwner hS hT hK hE hV (by omega) (fun u r hu h8 hr => h1 u r (by have := h8 (by omega); omega) hr) (fun g' h3 h4 => nm_r (nI_1 t) (ih (t + 1) g' (by omega) (fun t' s ht' hs => ?_)))
      by_cases e : t' = t
      · have h5 := h3 s hs
        rw [tf_PR_tr hT hS hV (by omega) hs, show (8 + t) * 16 + s = 128 + (t * 16 + s) by omega] at h5
        rw [e]
        exact h5
      · rw [h4 _ (by omega)]
        exact h1 t' s (by omega) hs
  exact ⟨nT + 1, tl nT 0 fl (by omega) (fun t' s ht' => absurd ht' (by omega))⟩
end
section
theorem tx_findHome {nC nT nS nD nB nK : Nat} {ls rr rc sp fc : Int32} {L op kk su own ow tr xe al fl fA fC fT fP fB fH : Nat → Int32} {ex : Nat → Int32} {post : Int32 → Prop} (hC : nC ≤ 8) (hS : nS ≤ 16) (hF : tf_FL nC nT nS nK own ow tr ex al fl) (hU : tf_SV nC su) {s : Nat} (hs : s < nS) {x : Int32} (hx : tf_cl nC x) (p : post (tf_fh su (fun c => tf_PR own ow tr ex al nK c s) 8 x)) : wpX_findHome post (nI nC, nI nT, nI nS, nI nD, nI nB, nI nK, ls, rr, rc, sp, fc, L, op, kk, su, own, ow, tr, xe, al, fl, fA, fC, fT, fP, fB, fH) x (nI s) := by
  have main : ∀ d i x, i + d = 8 → tf_cl nC x → post (tf_fh su (fun c => tf_PR own ow tr ex al nK c s) d x) → wX_findHome_5 post (nI s) (nI nC) (nI nT) (nI nS) (nI nD) (nI nB) (nI nK) ls rr rc sp fc L op kk su own ow tr xe al fl fA fC fT fP fB fH (d + 1) x (nI i) := by
    intro d
    induction d with
    | zero =>
      intro i x hi hx q
      exact br_t (nI_le (a := 8) (by omega) (by omega)) q
    | succ d ih =>
      intro i x hi hx q
      simp only [tf_fh] at q
      refine br_f (nI_ge (b := 8) (by omega) (by omega)) ?_
      rcases hx with e | ⟨c, hc, e⟩
      · rw [if_pos e] at q
        exact br_t e q
      · subst e
        have h1 : ¬ nI c = -1 := tf_m1 (by omega)
        rw [if_neg h1, nI_clamp (show c < 2 ^ 31 by omega)] at q
        refine br_f h1 ?_
        rw [tf_ix, nI_clamp (show c * 16 + s < 2 ^ 31 by omega), nI_clamp (show c < 2 ^ 31 by omega), hF c s (Or.inl hc) hs]
        refine ⟨vp_in_nI (by omega) (by omega), ?_⟩
        by_cases z : tf_PR own ow tr ex al nK c s = -1
        · rw [if_pos z] at q
          exact br_t z ⟨vp_in_nI (by omega) (by omega), nm_e (nm_r (nI_1 i) (ih (i + 1) _ (by omega) (tf_SV_cl hU hc) q))⟩
        · rw [if_neg z] at q
          exact br_f z q
  exact ⟨9, main 8 0 x (by omega) hx p⟩
def tf_lw (su P : Nat → Int32) (w : Int32) (d : Nat) (x : Int32) : Int32 := if w = 0 then (if tf_fh su P d x = -1 then -1 else P (tf_fh su P d x).toNatClampNeg) else tf_fh su P d x
theorem tf_lw1 {su P : Nat → Int32} {x : Int32} : tf_lw su P 1 8 x = tf_fh su P 8 x := if_neg (by decide)
theorem tf_lw0n {su P : Nat → Int32} {x : Int32} (e : tf_fh su P 8 x = -1) : tf_lw su P 0 8 x = -1 := by
  unfold tf_lw
  rw [if_pos rfl, if_pos e]
theorem tf_lw0s {su P : Nat → Int32} {x : Int32} {h : Nat} (hh : h < 8) (e : tf_fh su P 8 x = nI h) : tf_lw su P 0 8 x = P h := by
  unfold tf_lw
  rw [if_pos rfl, e, if_neg (tf_m1 (by omega)), nI_clamp (by omega)]
end
section
theorem tx_clamp {post : Int32 → Prop} {v : Int32} {g : Nat} (p : post (nI (tf_cp v g))) : wpX_clamp post () v (nI g) := by
  by_cases c : v < 1
  · rw [tf_cp_1 c] at p
    exact br_f (Int32.not_le.mpr c) p
  · by_cases c2 : nI g < v
    · rw [tf_cp_g c c2] at p
      exact br_t (Int32.not_lt.mp c) (br_f (Int32.not_le.mpr c2) p)
    · rw [tf_cp_v c c2] at p
      exact br_t (Int32.not_lt.mp c) (br_t (Int32.not_lt.mp c2) p)
theorem tx_init {mc ms kc ks : Nat} {nC nT nS nD nB nK : Nat} {ls rr rc sp fc : Int32} {L op kk ow tr xe fA fC fT fP fB fH : Nat → Int32} {post : St2 → Prop} (p : post (nI nC, nI nT, nI nS, nI nD, nI nB, nI nK, ls, rr, rc, sp, fc, L, op, kk, tf_ini 8, tf_ini 256, ow, tr, xe, tf_ini 256, tf_ini 256, fA, fC, fT, fP, fB, fH)) : ∃ n, wX_init_216 post mc ms kc ks (nI nC) (nI nT) (nI nS) (nI nD) (nI nB) (nI nK) ls rr rc sp fc n 0 L op kk (tf_ini 0) (tf_ini 0) ow tr xe (tf_ini 0) (tf_ini 0) fA fC fT fP fB fH := by
  have c3 : ∀ d j, j + d = 256 → wX_init_273 post mc ms kc ks (nI nC) (nI nT) (nI nS) (nI nD) (nI nB) (nI nK) ls rr rc sp fc (d + 1) (nI j) L op kk (tf_ini 8) (tf_ini 256) ow tr xe (tf_ini j) (tf_ini 256) fA fC fT fP fB fH := by
    intro d
    induction d with
    | zero =>
      intro j hj
      have e : j = 256 := by omega
      rw [e]
      exact br_t (nI_le (a := 256) (by omega) (by omega)) p
    | succ d ih =>
      intro j hj
      exact br_f (nI_ge (b := 256) (by omega) (by omega)) ⟨vp_in_nI (by omega) (by omega), nm_r (by rw [nI_clamp (by omega), tf_ini_s]) (nm_r (nI_1 j) (ih (j + 1) (by omega)))⟩
  have c2 : ∀ d j, j + d = 256 → wX_init_240 post mc ms kc ks (nI nC) (nI nT) (nI nS) (nI nD) (nI nB) (nI nK) ls rr rc sp fc (d + 1) (nI j) L op kk (tf_ini 8) (tf_ini j) ow tr xe (tf_ini 0) (tf_ini j) fA fC fT fP fB fH := by
    intro d
    induction d with
    | zero =>
      intro j hj
      have e : j = 256 := by omega
      rw [e]
      exact br_t (nI_le (a := 256) (by omega) (by omega)) ⟨257, c3 256 0 rfl⟩
    | succ d ih =>
      intro j hj
      exact br_f (nI_ge (b := 256) (by omega) (by omega)) ⟨vp_in_nI (by omega) (by omega), nm_r (by rw [nI_clamp (by omega), tf_ini_s]) ⟨vp_in_nI (by omega) (by omega), nm_r (by rw [nI_clamp (by omega), tf_ini_s]) (nm_r (nI_1 j) (ih (j + 1) (by omega)))⟩⟩
  have c1 : ∀ d j, j + d = 8 → wX_init_216 post mc ms kc ks (nI nC) (nI nT) (nI nS) (nI nD) (nI nB) (nI nK) ls rr rc sp fc (d + 1) (nI j) L op kk (tf_ini j) (tf_ini 0) ow tr xe (tf_ini 0) (tf_ini 0) fA fC fT fP fB fH := by
    intro d
    induction d with
    | zero =>
      intro j hj
      have e : j = 8 := by omega
      rw [e]
      exact br_t (nI_le (a := 8) (by omega) (by omega)) ⟨257, c2 256 0 rfl⟩
    | succ d ih =>
      intro j hj
      exact br_f (nI_ge (b := 8) (by omega) (by omega)) ⟨vp_in_nI (by omega) (by omega), nm_r (by rw [nI_clamp (by omega), tf_ini_s]) (nm_r (nI_1 j) (ih (j + 1) (by omega)))⟩
  exact ⟨9, c1 8 0 rfl⟩
end
section
theorem tx_sel_t {post : Int32 → Prop} {o : Nat} (h : o = 6 ∨ o = 7) (p : post 1) : wpX_takesSelector post () (nI o) := by
  rcases h with rfl | rfl
  · exact br_t rfl p
  · exact br_f (by decide) (br_t rfl p)
theorem tx_sel_f {post : Int32 → Prop} {o : Nat} (h9 : o < 9) (h : ¬ (o = 6 ∨ o = 7)) (p : post 0) : wpX_takesSelector post () (nI o) := pk_eq o 6 (fun z => absurd (Or.inl z) h) (fun _ => pk_eq o 7 (fun z => absurd (Or.inr z) h) (fun _ => p))
theorem tx_num_t {post : Int32 → Prop} {o : Nat} (h : o = 1 ∨ o = 2 ∨ o = 3) (p : post 1) : wpX_takesNumber post () (nI o) := by
  rcases h with rfl | rfl | rfl
  · exact br_t rfl p
  · exact br_f (by decide) (br_t rfl p)
  · exact br_f (by decide) (br_f (by decide) (br_t rfl p))
theorem tx_num_f {post : Int32 → Prop} {o : Nat} (h9 : o < 9) (h : ¬ (o = 1 ∨ o = 2 ∨ o = 3)) (p : post 0) : wpX_takesNumber post () (nI o) := pk_eq o 1 (fun z => absurd (Or.inl z) h) (fun _ => pk_eq o 2 (fun z => absurd (Or.inr (Or.inl z)) h) (fun _ => pk_eq o 3 (fun z => absurd (Or.inr (Or.inr z)) h) (fun _ => p)))
/-- the operand fits, and k is what is kept -/
def tf_ft (nS o : Nat) (v k : Int32) : Prop := ((o = 6 ∨ o = 7) ∧ tf_in v nS ∧ k = v) ∨ ((o = 1 ∨ o = 2 ∨ o = 3) ∧ ¬ v < (-128) ∧ ¬ 127 < v ∧ k = v) ∨ ((o = 0 ∨ o = 4 ∨ o = 5 ∨ o = 8) ∧ k = 0)
def tf_nf (nS o : Nat) (v : Int32) : Prop := ((o = 6 ∨ o = 7) ∧ ¬ tf_in v nS) ∨ ((o = 1 ∨ o = 2 ∨ o = 3) ∧ (v < (-128) ∨ (¬ v < (-128) ∧ 127 < v)))
theorem tf_fit (nS : Nat) {o : Nat} (h : o < 9) (v : Int32) : (∃ k, tf_ft nS o v k) ∨ tf_nf nS o v := by
  by_cases a : o = 6 ∨ o = 7
  · by_cases b : tf_in v nS
    · exact Or.inl ⟨v, Or.inl ⟨a, b, rfl⟩⟩
    · exact Or.inr (Or.inl ⟨a, b⟩)
  · by_cases b : o = 1 ∨ o = 2 ∨ o = 3
    · by_cases c : v < (-128)
      · exact Or.inr (Or.inr ⟨b, Or.inl c⟩)
      · by_cases d : 127 < v
        · exact Or.inr (Or.inr ⟨b, Or.inr ⟨c, d⟩⟩)
        · exact Or.inl ⟨v, Or.inr (Or.inl ⟨b, c, d, rfl⟩)⟩
    · exact Or.inl ⟨0, Or.inr (Or.inr ⟨by omega, rfl⟩)⟩
theorem tx_fits_t {nC nT nS nD nB nK : Nat} {ls rr rc sp fc : Int32} {L op kk su own ow tr xe al fl fA fC fT fP fB fH : Nat → Int32} {post : Int32 → Prop} {o : Nat} {v k : Int32} (hS : nS ≤ 16) (h9 : o < 9) (h : tf_ft nS o v k) (p : post 1) : wpX_operandFits post (nI nC, nI nT, nI nS, nI nD, nI nB, nI nK, ls, rr, rc, sp, fc, L, op, kk, su, own, ow, tr, xe, al, fl, fA, fC, fT, fP, fB, fH) (nI o) v := by
  unfold wpX_operandFits
  rcases h with ⟨a, b, _⟩ | ⟨a, b, c, _⟩ | ⟨a, _⟩
  · exact tx_sel_t a (br_f (by decide) (tx_isSelector_t hS b ⟨rfl, p⟩))
  · exact tx_sel_f h9 (by omega) (br_t rfl (tx_num_t a (br_f (by decide) (br_f b (br_f c p)))))
  · exact tx_sel_f h9 (by omega) (br_t rfl (tx_num_f h9 (by omega) (br_t rfl p)))
theorem tx_fits_f {nC nT nS nD nB nK : Nat} {ls rr rc sp fc : Int32} {L op kk su own ow tr xe al fl fA fC fT fP fB fH : Nat → Int32} {post : Int32 → Prop} {o : Nat} {v : Int32} (hS : nS ≤ 16) (h9 : o < 9) (h : tf_nf nS o v) (p : post 0) : wpX_operandFits post (nI nC, nI nT, nI nS, nI nD, nI nB, nI nK, ls, rr, rc, sp, fc, L, op, kk, su, own, ow, tr, xe, al, fl, fA, fC, fT, fP, fB, fH) (nI o) v := by
  unfold wpX_operandFits
  rcases h with ⟨a, b⟩ | ⟨a, b | ⟨b, c⟩⟩
  · exact tx_sel_t a (br_f (by decide) (tx_isSelector_f hS b ⟨rfl, p⟩))
  · exact tx_sel_f h9 (by omega) (br_t rfl (tx_num_t a (br_f (by decide) (br_t b p))))
  · exact tx_sel_f h9 (by omega) (br_t rfl (tx_num_t a (br_f (by decide) (br_f b (br_t c p)))))
theorem tf_le8 {o : Nat} (h : o < 9) : nI o ≤ 8 := nI_le (b := 8) (by omega) (by omega)
theorem tf_gt8 {v : Int32} (h : nI 9 ≤ v) : ¬ v < 0 ∧ ¬ v ≤ 8 := by
  refine ⟨tf_ge0 (by omega) h, fun z => ?_⟩
  have h2 := Int32.le_trans h z
  exact absurd h2 (by decide)
/-- a call of emit, whatever is asked: nothing changes, or one cell is added -/
theorem tx_emit_0 {nC nT nS nD nK : Nat} {ls rr rc sp fc : Int32} {L op kk su own ow tr xe al fl fA fC fT fP fB fH : Nat → Int32} {post : Int32 → St2 → Prop} {v1 v2 : Int32} (p : post 0 (nI nC, nI nT, nI nS, nI nD, nI 0, nI nK, ls, rr, rc, sp, fc, L, op, kk, su, own, ow, tr, xe, al, fl, fA, fC, fT, fP, fB, fH)) : wpX_emit post (nI nC, nI nT, nI nS, nI nD, nI 0, nI nK, ls, rr, rc, sp, fc, L, op, kk, su, own, ow, tr, xe, al, fl, fA, fC, fT, fP, fB, fH) v1 v2 := br_t rfl p
theorem tx_emit_b {nC nT nS nD nK : Nat} {ls rr rc sp fc : Int32} {L op kk su own ow tr xe al fl fA fC fT fP fB fH : Nat → Int32} {b : Nat} {post : Int32 → St2 → Prop} {v1 v2 : Int32} (hb : b < 16) (h : ¬ tf_in v1 9) (p : post 0 (nI nC, nI nT, nI nS, nI nD, nI (b + 1), nI nK, ls, rr, rc, sp, fc, L, op, kk, su, own, ow, tr, xe, al, fl, fA, fC, fT, fP, fB, fH)) : wpX_emit post (nI nC, nI nT, nI nS, nI nD, nI (b + 1), nI nK, ls, rr, rc, sp, fc, L, op, kk, su, own, ow, tr, xe, al, fl, fA, fC, fT, fP, fB, fH) v1 v2 := by
  refine br_f (nI_ne0 (by omega) (by omega)) ?_
  rcases tf_nin (n := 9) (by omega) h with a | ⟨a, c, _⟩
  · exact br_t a p
  · exact br_f a (br_f (tf_gt8 c).2 p)
theorem tx_emit_16 {nC nT nS nD nK : Nat} {ls rr rc sp fc : Int32} {L op kk su own ow tr xe al fl fA fC fT fP fB fH : Nat → Int32} {b o : Nat} {post : Int32 → St2 → Prop} {v2 : Int32} (hb : b < 16) (h9 : o < 9) (hl : L b = nI 16) (p : post 0 (nI nC, nI nT, nI nS, nI nD, nI (b + 1), nI nK, ls, rr, rc, sp, fc, L, op, kk, su, own, ow, tr, xe, al, fl, fA, fC, fT, fP, fB, fH)) : wpX_emit post (nI nC, nI nT, nI nS, nI nD, nI (b + 1), nI nK, ls, rr, rc, sp, fc, L, op, kk, su, own, ow, tr, xe, al, fl, fA, fC, fT, fP, fB, fH) (nI o) v2 := by
  refine br_f (nI_ne0 (by omega) (by omega)) (br_f (nI_pos (by omega)) (br_t (tf_le8 h9) (nm_r (nI_pred b) ⟨vp_in_nI hb (by omega), ?_⟩)))
  rw [nI_clamp (show b < 2 ^ 31 by omega), hl]
  exact br_t rfl p
theorem tx_emit_n {nC nT nS nD nK : Nat} {ls rr rc sp fc : Int32} {L op kk su own ow tr xe al fl fA fC fT fP fB fH : Nat → Int32} {b o l : Nat} {post : Int32 → St2 → Prop} {v2 : Int32} (hS : nS ≤ 16) (hb : b < 16) (h9 : o < 9) (hl : L b = nI l) (l16 : l < 16) (h : tf_nf nS o v2) (p : post 0 (nI nC, nI nT, nI nS, nI nD, nI (b + 1), nI nK, ls, rr, rc, sp, fc, L, op, kk, su, own, ow, tr, xe, al, fl, fA, fC, fT, fP, fB, fH)) : wpX_emit post (nI nC, nI nT, nI nS, nI nD, nI (b + 1), nI nK, ls, rr, rc, sp, fc, L, op, kk, su, own, ow, tr, xe, al, fl, fA, fC, fT, fP, fB, fH) (nI o) v2 := by
  refine br_f (nI_ne0 (by omega) (by omega)) (br_f (nI_pos (by omega)) (br_t (tf_le8 h9) (nm_r (nI_pred b) ⟨vp_in_nI hb (by omega), ?_⟩)))
  rw [nI_clamp (show b < 2 ^ 31 by omega), hl]
  exact pk_eq l 16 (fun z => absurd z (by omega)) (fun _ => tx_fits_f hS h9 h (br_t rfl p))
theorem tx_emit_t {nC nT nS nD nK : Nat} {ls rr rc sp fc : Int32} {L op kk su own ow tr xe al fl fA fC fT fP fB fH : Nat → Int32} {b o l : Nat} {post : Int32 → St2 → Prop} {v2 k : Int32} (hS : nS ≤ 16) (hb : b < 16) (h9 : o < 9) (hl : L b = nI l) (l16 : l < 16) (h : tf_ft nS o v2 k) (p : post 1 (nI nC, nI nT, nI nS, nI nD, nI (b + 1), nI nK, ls, rr, rc, sp, fc, upd L b (nI (l + 1)), upd op (b * 16 + l) (nI o), upd kk (b * 16 + l) k, su, own, ow, tr, xe, al, fl, fA, fC, fT, fP, fB, fH)) : wpX_emit post (nI nC, nI nT, nI nS, nI nD, nI (b + 1), nI nK, ls, rr, rc, sp, fc, L, op, kk, su, own, ow, tr, xe, al, fl, fA, fC, fT, fP, fB, fH) (nI o) v2 := by
  refine br_f (nI_ne0 (by omega) (by omega)) (br_f (nI_pos (by omega)) (br_t (tf_le8 h9) (nm_r (nI_pred b) ⟨vp_in_nI hb (by omega), ?_⟩)))
  rw [nI_clamp (show b < 2 ^ 31 by omega), hl]
  have F : ∀ z0 : Int32, z0 = k → wX_emit_94 post (nI b) z0 (nI (b * 16 + l)) (nI nC) (nI nT) (nI nS) (nI nD) (nI (b + 1)) (nI nK) ls rr rc sp fc L (upd op (b * 16 + l) (nI o)) kk su own ow tr xe al fl fA fC fT fP fB fH := by
    intro z0 e
    unfold wX_emit_94
    rw [nI_clamp (show b * 16 + l < 2 ^ 31 by omega), nI_clamp (show b < 2 ^ 31 by omega), hl, nI_1, e]
    exact ⟨vp_in_nI (by omega) (by omega), nm_e ⟨vp_in_nI hb (by omega), vp_in_nI hb (by omega), nm_e p⟩⟩
  refine pk_eq l 16 (fun z => absurd z (by omega)) (fun _ => tx_fits_t hS h9 h (br_f (by decide) ⟨vp_in_nI hb (by omega), nm_r (tf_ix b l) ⟨vp_in_nI (by omega) (by omega), ?_⟩⟩))
  rw [nI_clamp (show b * 16 + l < 2 ^ 31 by omega)]
  refine nm_e ?_
  rcases h with ⟨a, _, e⟩ | ⟨a, _, _, e⟩ | ⟨a, e⟩
  · exact tx_sel_t a (br_f (by decide) (F v2 e.symm))
  · exact tx_sel_f h9 (by omega) (br_t rfl (tx_num_t a (br_f (by decide) (F v2 e.symm))))
  · exact tx_sel_f h9 (by omega) (br_t rfl (tx_num_f h9 (by omega) (br_t rfl (F 0 e.symm))))
end
section
theorem tx_own_t {nC nT nS nD nB nK : Nat} {ls rr rc sp fc : Int32} {L op kk su own ow tr xe al fl fA fC fT fP fB fH : Nat → Int32} {post : Int32 → Prop} (hC : nC ≤ 8) (hT : nT ≤ 8) (hS : nS ≤ 16) {j s : Nat} (hj : j < nC ∨ (8 ≤ j ∧ j < 8 + nT)) (hs : s < nS) (p : post (own (j * 16 + s))) : wpX_ownMethod post (nI nC, nI nT, nI nS, nI nD, nI nB, nI nK, ls, rr, rc, sp, fc, L, op, kk, su, own, ow, tr, xe, al, fl, fA, fC, fT, fP, fB, fH) (nI j) (nI s) := by
  unfold wpX_ownMethod
  refine tx_isOwner_t hC hT ⟨j, hj, rfl⟩ (br_f (by decide) (tx_isSelector_t hS ⟨s, hs, rfl⟩ (br_f (by decide) ?_)))
  rw [tf_ix, nI_clamp (show j * 16 + s < 2 ^ 31 by omega)]
  exact ⟨vp_in_nI (by omega) (by omega), p⟩
theorem tx_own_f {nC nT nS nD nB nK : Nat} {ls rr rc sp fc : Int32} {L op kk su own ow tr xe al fl fA fC fT fP fB fH : Nat → Int32} {post : Int32 → Prop} (hC : nC ≤ 8) (hT : nT ≤ 8) (hS : nS ≤ 16) {v1 v2 : Int32} (h : ¬ (tf_ow v1 nC nT ∧ tf_in v2 nS)) (p : post (-3)) : wpX_ownMethod post (nI nC, nI nT, nI nS, nI nD, nI nB, nI nK, ls, rr, rc, sp, fc, L, op, kk, su, own, ow, tr, xe, al, fl, fA, fC, fT, fP, fB, fH) v1 v2 := by
  unfold wpX_ownMethod
  by_cases a : tf_ow v1 nC nT
  · exact tx_isOwner_t hC hT a (br_f (by decide) (tx_isSelector_f hS (fun b => h ⟨a, b⟩) (br_t rfl p)))
  · exact tx_isOwner_f hC hT a (br_t rfl p)
theorem tx_prov_t {nC nT nS nD nB nK : Nat} {ls rr rc sp fc : Int32} {L op kk su own ow tr xe al fl fA fC fT fP fB fH : Nat → Int32} {post : Int32 → Prop} (hC : nC ≤ 8) (hT : nT ≤ 8) (hS : nS ≤ 16) {j s : Nat} (hj : j < nC ∨ (8 ≤ j ∧ j < 8 + nT)) (hs : s < nS) (p : post (fl (j * 16 + s))) : wpX_provided post (nI nC, nI nT, nI nS, nI nD, nI nB, nI nK, ls, rr, rc, sp, fc, L, op, kk, su, own, ow, tr, xe, al, fl, fA, fC, fT, fP, fB, fH) (nI j) (nI s) := by
  unfold wpX_provided
  refine tx_isOwner_t hC hT ⟨j, hj, rfl⟩ (br_f (by decide) (tx_isSelector_t hS ⟨s, hs, rfl⟩ (br_f (by decide) ?_)))
  rw [tf_ix, nI_clamp (show j * 16 + s < 2 ^ 31 by omega)]
  exact ⟨vp_in_nI (by omega) (by omega), p⟩
theorem tx_prov_f {nC nT nS nD nB nK : Nat} {ls rr rc sp fc : Int32} {L op kk su own ow tr xe al fl fA fC fT fP fB fH : Nat → Int32} {post : Int32 → Prop} (hC : nC ≤ 8) (hT : nT ≤ 8) (hS : nS ≤ 16) {v1 v2 : Int32} (h : ¬ (tf_ow v1 nC nT ∧ tf_in v2 nS)) (p : post (-3)) : wpX_provided post (nI nC, nI nT, nI nS, nI nD, nI nB, nI nK, ls, rr, rc, sp, fc, L, op, kk, su, own, ow, tr, xe, al, fl, fA, fC, fT, fP, fB, fH) v1 v2 := by
  unfold wpX_provided
  by_cases a : tf_ow v1 nC nT
  · exact tx_isOwner_t hC hT a (br_f (by decide) (tx_isSelector_f hS (fun b => h ⟨a, b⟩) (br_t rfl p)))
  · exact tx_isOwner_f hC hT a (br_t rfl p)
theorem tx_def_t {nC nT nS nD nB nK : Nat} {ls rr rc sp fc : Int32} {L op kk su own ow tr xe al fl fA fC fT fP fB fH : Nat → Int32} {ex : Nat → Int32} {post : Int32 → St2 → Prop} (hC : nC ≤ 8) (hT : nT ≤ 8) (hS : nS ≤ 16) (hK : nK ≤ 16) (hB : nB ≤ 16) (hE : tf_EX nS xe ex) (hV : tf_CV nT nS nK ow tr al) {j s : Nat} {x : Int32} (hj : j < nC ∨ (8 ≤ j ∧ j < 8 + nT)) (hs : s < nS) (hx : x = -1 ∨ tf_in x nB) (p : ∀ g : Nat → Int32, tf_FL nC nT nS nK (upd own (j * 16 + s) x) ow tr ex al g → post 1 (nI nC, nI nT, nI nS, nI nD, nI nB, nI nK, ls, rr, rc, sp, fc, L, op, kk, su, upd own (j * 16 + s) x, ow, tr, xe, al, g, fA, fC, fT, fP, fB, fH)) : wpX_define post (nI nC, nI nT, nI nS, nI nD, nI nB, nI nK, ls, rr, rc, sp, fc, L, op, kk, su, own, ow, tr, xe, al, fl, fA, fC, fT, fP, fB, fH) (nI j) (nI s) x := by
  have w : wX_define_33 post (nI j) (nI s) x (nI nC) (nI nT) (nI nS) (nI nD) (nI nB) (nI nK) ls rr rc sp fc L op kk su own ow tr xe al fl fA fC fT fP fB fH := by
    unfold wX_define_33
    rw [tf_ix, nI_clamp (show j * 16 + s < 2 ^ 31 by omega)]
    exact ⟨vp_in_nI (by omega) (by omega), nm_e (tx_flattenAll hC hS hT hK hE hV p)⟩
  unfold wpX_define
  refine tx_isOwner_t hC hT ⟨j, hj, rfl⟩ (br_f (by decide) (tx_isSelector_t hS ⟨s, hs, rfl⟩ (br_f (by decide) ?_)))
  by_cases c : x = -1
  · exact br_t c w
  · exact br_f c (tx_isBody_t hB (hx.resolve_left c) (br_f (by decide) w))
theorem tx_def_f {nC nT nS nD nB nK : Nat} {ls rr rc sp fc : Int32} {L op kk su own ow tr xe al fl fA fC fT fP fB fH : Nat → Int32} {post : Int32 → St2 → Prop} (hC : nC ≤ 8) (hT : nT ≤ 8) (hS : nS ≤ 16) (hB : nB ≤ 16) {v1 v2 x : Int32} (h : ¬ (tf_ow v1 nC nT ∧ tf_in v2 nS ∧ (x = -1 ∨ tf_in x nB))) (p : post 0 (nI nC, nI nT, nI nS, nI nD, nI nB, nI nK, ls, rr, rc, sp, fc, L, op, kk, su, own, ow, tr, xe, al, fl, fA, fC, fT, fP, fB, fH)) : wpX_define post (nI nC, nI nT, nI nS, nI nD, nI nB, nI nK, ls, rr, rc, sp, fc, L, op, kk, su, own, ow, tr, xe, al, fl, fA, fC, fT, fP, fB, fH) v1 v2 x := by
  unfold wpX_define
  by_cases a : tf_ow v1 nC nT
  · refine tx_isOwner_t hC hT a (br_f (by decide) ?_)
    by_cases b : tf_in v2 nS
    · exact tx_isSelector_t hS b (br_f (by decide) (br_f (fun z => h ⟨a, b, Or.inl z⟩) (tx_isBody_f hB (fun z => h ⟨a, b, Or.inr z⟩) (br_t rfl p))))
    · exact tx_isSelector_f hS b (br_t rfl p)
  · exact tx_isOwner_f hC hT a (br_t rfl p)
theorem tf_use_t {A W : Prop} {j u nT : Nat} (hT : nT ≤ 8) (hj : j < 16) (hu : u < nT) (h8 : 8 ≤ j → u + 8 < j) (w : W) : (nI u < 0 → A) ∧ (¬ nI u < 0 → ((nI u < nI nT → ((nI j < 8 → W) ∧ (¬ nI j < 8 → ((nI u < nI j - 8 → W) ∧ (¬ nI u < nI j - 8 → A))))) ∧ (¬ nI u < nI nT → A))) := by
  refine br_f (nI_pos (by omega)) (br_t (nI_lt hu (by omega)) (pk_lt j 8 (fun _ => w) (fun z => ?_)))
  have e : nI j - 8 = nI (j - 8) := pk_sub (b := 8) z
  rw [e]
  exact br_t (nI_lt (by omega) (by omega)) w
theorem tf_use_h {A W : Prop} {j u nT : Nat} (hT : nT ≤ 8) (hj : j < 16) (hu : u < nT) (h8 : 8 ≤ j ∧ j ≤ u + 8) (a : A) : (nI u < 0 → A) ∧ (¬ nI u < 0 → ((nI u < nI nT → ((nI j < 8 → W) ∧ (¬ nI j < 8 → ((nI u < nI j - 8 → W) ∧ (¬ nI u < nI j - 8 → A))))) ∧ (¬ nI u < nI nT → A))) := by
  refine br_f (nI_pos (by omega)) (br_t (nI_lt hu (by omega)) (br_f (nI_nlt (b := 8) h8.1 (by omega)) ?_))
  have e : nI j - 8 = nI (j - 8) := pk_sub (b := 8) h8.1
  rw [e]
  exact br_f (nI_nlt (by omega) (by omega)) a
theorem tx_use_t {nC nT nS nD nB nK : Nat} {ls rr rc sp fc : Int32} {L op kk su own ow tr xe al fl fA fC fT fP fB fH : Nat → Int32} {ex : Nat → Int32} {post : Int32 → St2 → Prop} (hC : nC ≤ 8) (hT : nT ≤ 8) (hS : nS ≤ 16) (hK : nK < 16) (hE : tf_EX nS xe ex) {j u : Nat} (hj : j < nC ∨ (8 ≤ j ∧ j < 8 + nT)) (hu : u < nT) (h8 : 8 ≤ j → u + 8 < j) (hV : tf_CV nT nS (nK + 1) (upd ow nK (nI j)) (upd tr nK (nI u)) al) (p : ∀ g : Nat → Int32, tf_FL nC nT nS (nK + 1) own (upd ow nK (nI j)) (upd tr nK (nI u)) ex al g → post (nI nK) (nI nC, nI nT, nI nS, nI nD, nI nB, nI (nK + 1), ls, rr, rc, sp, fc, L, op, kk, su, own, upd ow nK (nI j), upd tr nK (nI u), xe, al, g, fA, fC, fT, fP, fB, fH)) : wpX_use post (nI nC, nI nT, nI nS, nI nD, nI nB, nI nK, ls, rr, rc, sp, fc, L, op, kk, su, own, ow, tr, xe, al, fl, fA, fC, fT, fP, fB, fH) (nI j) (nI u) := by
  have w : wX_use_40 post (nI j) (nI u) (nI nC) (nI nT) (nI nS) (nI nD) (nI nB) (nI nK) ls rr rc sp fc L op kk su own ow tr xe al fl fA fC fT fP fB fH := by
    unfold wX_use_40
    rw [nI_clamp (show nK < 2 ^ 31 by omega)]
    exact pk_eq nK 16 (fun z => absurd z (by omega)) (fun _ => ⟨vp_in_nI hK (by omega), nm_e ⟨vp_in_nI hK (by omega), nm_e (nm_r (nI_1 nK) (tx_flattenAll hC hS hT (by omega) hE hV p))⟩⟩)
  unfold wpX_use
  exact tx_isOwner_t hC hT ⟨j, hj, rfl⟩ (br_f (by decide) (tf_use_t hT (by omega) hu h8 w))
theorem tx_use_f {nC nT nS nD nB nK : Nat} {ls rr rc sp fc : Int32} {L op kk su own ow tr xe al fl fA fC fT fP fB fH : Nat → Int32} {post : Int32 → St2 → Prop} (hC : nC ≤ 8) (hT : nT ≤ 8) {v1 v2 : Int32} (h : ¬ tf_ow v1 nC nT ∨ ¬ tf_in v2 nT) (p : post (-3) (nI nC, nI nT, nI nS, nI nD, nI nB, nI nK, ls, rr, rc, sp, fc, L, op, kk, su, own, ow, tr, xe, al, fl, fA, fC, fT, fP, fB, fH)) : wpX_use post (nI nC, nI nT, nI nS, nI nD, nI nB, nI nK, ls, rr, rc, sp, fc, L, op, kk, su, own, ow, tr, xe, al, fl, fA, fC, fT, fP, fB, fH) v1 v2 := by
  unfold wpX_use
  by_cases a : tf_ow v1 nC nT
  · exact tx_isOwner_t hC hT a (br_f (by decide) (tf_r2f (by omega) (h.resolve_left (fun z => z a)) p))
  · exact tx_isOwner_f hC hT a (br_t rfl p)
theorem tx_use_g {nC nT nS nD nB nK : Nat} {ls rr rc sp fc : Int32} {L op kk su own ow tr xe al fl fA fC fT fP fB fH : Nat → Int32} {post : Int32 → St2 → Prop} (hC : nC ≤ 8) (hT : nT ≤ 8) {j u : Nat} (hj : j < nC ∨ (8 ≤ j ∧ j < 8 + nT)) (hu : u < nT) (h8 : (8 ≤ j ∧ j ≤ u + 8) ∨ nK = 16) (p : post (-3) (nI nC, nI nT, nI nS, nI nD, nI nB, nI nK, ls, rr, rc, sp, fc, L, op, kk, su, own, ow, tr, xe, al, fl, fA, fC, fT, fP, fB, fH)) : wpX_use post (nI nC, nI nT, nI nS, nI nD, nI nB, nI nK, ls, rr, rc, sp, fc, L, op, kk, su, own, ow, tr, xe, al, fl, fA, fC, fT, fP, fB, fH) (nI j) (nI u) := by
  unfold wpX_use
  refine tx_isOwner_t hC hT ⟨j, hj, rfl⟩ (br_f (by decide) ?_)
  by_cases c : 8 ≤ j ∧ j ≤ u + 8
  · exact tf_use_h hT (by omega) hu c p
  · have e := h8.resolve_left c
    exact tf_use_t hT (by omega) hu (by omega) (br_t (by rw [e]; rfl) p)
end
section
theorem tx_excl_t {nC nT nS nD nB nK : Nat} {ls rr rc sp fc : Int32} {L op kk su own ow tr xe al fl fA fC fT fP fB fH : Nat → Int32} {ex : Nat → Int32} {post : Int32 → St2 → Prop} (hC : nC ≤ 8) (hT : nT ≤ 8) (hS : nS ≤ 16) (hK : nK ≤ 16) (hE : tf_EX nS xe ex) (hV : tf_CV nT nS nK ow tr al) {k s : Nat} (hk : k < nK) (hs : s < nS) (p : ∀ g : Nat → Int32, tf_FL nC nT nS nK own ow tr (upd ex (k * 16 + s) 1) al g → post 1 (nI nC, nI nT, nI nS, nI nD, nI nB, nI nK, ls, rr, rc, sp, fc, L, op, kk, su, own, ow, tr, upd xe k (xe k ||| ((1 : Int32) <<< (nI s &&& 31))), al, g, fA, fC, fT, fP, fB, fH)) : wpX_exclude post (nI nC, nI nT, nI nS, nI nD, nI nB, nI nK, ls, rr, rc, sp, fc, L, op, kk, su, own, ow, tr, xe, al, fl, fA, fC, fT, fP, fB, fH) (nI k) (nI s) := by
  unfold wpX_exclude
  refine tx_isComponent_t hK ⟨k, hk, rfl⟩ (br_f (by decide) (tx_isSelector_t hS ⟨s, hs, rfl⟩ (br_f (by decide) ?_)))
  rw [nI_clamp (show k < 2 ^ 31 by omega)]
  exact ⟨vp_in_nI (by omega) (by omega), vp_in_nI (by omega) (by omega), nm_e (tx_flattenAll hC hS hT hK (tf_EX_upd hS hE (by omega) hs) hV p)⟩
theorem tx_excl_f {nC nT nS nD nB nK : Nat} {ls rr rc sp fc : Int32} {L op kk su own ow tr xe al fl fA fC fT fP fB fH : Nat → Int32} {post : Int32 → St2 → Prop} (hS : nS ≤ 16) (hK : nK ≤ 16) {v1 v2 : Int32} (h : ¬ (tf_in v1 nK ∧ tf_in v2 nS)) (p : post 0 (nI nC, nI nT, nI nS, nI nD, nI nB, nI nK, ls, rr, rc, sp, fc, L, op, kk, su, own, ow, tr, xe, al, fl, fA, fC, fT, fP, fB, fH)) : wpX_exclude post (nI nC, nI nT, nI nS, nI nD, nI nB, nI nK, ls, rr, rc, sp, fc, L, op, kk, su, own, ow, tr, xe, al, fl, fA, fC, fT, fP, fB, fH) v1 v2 := by
  unfold wpX_exclude
  by_cases a : tf_in v1 nK
  · exact tx_isComponent_t hK a (br_f (by decide) (tx_isSelector_f hS (fun b => h ⟨a, b⟩) (br_t rfl p)))
  · exact tx_isComponent_f hK a (br_t rfl p)
theorem tx_al_n {nC nT nS nD nB nK : Nat} {ls rr rc sp fc : Int32} {L op kk su own ow tr xe al fl fA fC fT fP fB fH : Nat → Int32} {ex : Nat → Int32} {post : Int32 → St2 → Prop} (hC : nC ≤ 8) (hT : nT ≤ 8) (hS : nS ≤ 16) (hK : nK ≤ 16) (hE : tf_EX nS xe ex) {k n r : Nat} (hk : k < nK) (hn : n < nS) (hr : r < nS) (ha : al (k * 16 + n) = -1) (hV : tf_CV nT nS nK ow tr (upd al (k * 16 + n) (nI r))) (p : ∀ g : Nat → Int32, tf_FL nC nT nS nK own ow tr ex (upd al (k * 16 + n) (nI r)) g → post 1 (nI nC, nI nT, nI nS, nI nD, nI nB, nI nK, ls, rr, rc, sp, fc, L, op, kk, su, own, ow, tr, xe, upd al (k * 16 + n) (nI r), g, fA, fC, fT, fP, fB, fH)) : wpX_alias post (nI nC, nI nT, nI nS, nI nD, nI nB, nI nK, ls, rr, rc, sp, fc, L, op, kk, su, own, ow, tr, xe, al, fl, fA, fC, fT, fP, fB, fH) (nI k) (nI n) (nI r) := by
  unfold wpX_alias
  refine tx_isComponent_t hK ⟨k, hk, rfl⟩ (br_f (by decide) (tx_isSelector_t hS ⟨n, hn, rfl⟩ (br_f (by decide) (tx_isSelector_t hS ⟨r, hr, rfl⟩ (br_f (by decide) (nm_r (tf_ix k n) ⟨vp_in_nI (by omega) (by omega), ?_⟩))))))
  rw [nI_clamp (show k * 16 + n < 2 ^ 31 by omega)]
  exact br_t ha ⟨vp_in_nI (by omega) (by omega), nm_e (tx_flattenAll hC hS hT hK hE hV p)⟩
theorem tx_al_o {nC nT nS nD nB nK : Nat} {ls rr rc sp fc : Int32} {L op kk su own ow tr xe al fl fA fC fT fP fB fH : Nat → Int32} {post : Int32 → St2 → Prop} (hS : nS ≤ 16) (hK : nK ≤ 16) {k n r q : Nat} (hk : k < nK) (hn : n < nS) (hr : r < nS) (hq : q < nS) (ha : al (k * 16 + n) = nI q) (p : post (if q = r then 1 else 0) (nI nC, nI nT, nI nS, nI nD, nI nB, nI nK, ls, rr, rc, sp, fc, L, op, kk, su, own, ow, tr, xe, al, fl, fA, fC, fT, fP, fB, fH)) : wpX_alias post (nI nC, nI nT, nI nS, nI nD, nI nB, nI nK, ls, rr, rc, sp, fc, L, op, kk, su, own, ow, tr, xe, al, fl, fA, fC, fT, fP, fB, fH) (nI k) (nI n) (nI r) := by
  unfold wpX_alias
  refine tx_isComponent_t hK ⟨k, hk, rfl⟩ (br_f (by decide) (tx_isSelector_t hS ⟨n, hn, rfl⟩ (br_f (by decide) (tx_isSelector_t hS ⟨r, hr, rfl⟩ (br_f (by decide) (nm_r (tf_ix k n) ⟨vp_in_nI (by omega) (by omega), ?_⟩))))))
  rw [nI_clamp (show k * 16 + n < 2 ^ 31 by omega), ha]
  refine br_f (tf_m1 (by omega)) ⟨vp_in_nI (by omega) (by omega), pk_eq q r (fun e => ?_) (fun e => ?_)⟩
  · rw [if_pos e] at p
    exact p
  · rw [if_neg e] at p
    exact p
theorem tx_al_f {nC nT nS nD nB nK : Nat} {ls rr rc sp fc : Int32} {L op kk su own ow tr xe al fl fA fC fT fP fB fH : Nat → Int32} {post : Int32 → St2 → Prop} (hS : nS ≤ 16) (hK : nK ≤ 16) {v1 v2 v3 : Int32} (h : ¬ (tf_in v1 nK ∧ tf_in v2 nS ∧ tf_in v3 nS)) (p : post 0 (nI nC, nI nT, nI nS, nI nD, nI nB, nI nK, ls, rr, rc, sp, fc, L, op, kk, su, own, ow, tr, xe, al, fl, fA, fC, fT, fP, fB, fH)) : wpX_alias post (nI nC, nI nT, nI nS, nI nD, nI nB, nI nK, ls, rr, rc, sp, fc, L, op, kk, su, own, ow, tr, xe, al, fl, fA, fC, fT, fP, fB, fH) v1 v2 v3 := by
  unfold wpX_alias
  by_cases a : tf_in v1 nK
  · refine tx_isComponent_t hK a (br_f (by decide) ?_)
    by_cases b : tf_in v2 nS
    · exact tx_isSelector_t hS b (br_f (by decide) (tx_isSelector_f hS (fun c => h ⟨a, b, c⟩) (br_t rfl p)))
    · exact tx_isSelector_f hS b (br_t rfl p)
  · exact tx_isComponent_f hK a (br_t rfl p)
/-- what a component's field is: 0, 1, 2, 16 + n, or nothing -/
theorem tf_fld (v : Int32) {nS : Nat} (hS : nS ≤ 16) : v = 0 ∨ v = 1 ∨ v = 2 ∨ (∃ n, n < nS ∧ v = nI (16 + n)) ∨ (¬ v = 0 ∧ ¬ v = 1 ∧ ¬ v = 2 ∧ (v < 16 ∨ (¬ v < 16 ∧ 16 + nI nS ≤ v))) := by
  by_cases a : v = 0
  · exact Or.inl a
  · by_cases b : v = 1
    · exact Or.inr (Or.inl b)
    · by_cases c : v = 2
      · exact Or.inr (Or.inr (Or.inl c))
      · right; right; right
        have h16 : nI 16 = 16 := rfl
        rcases pk_ix v (n := 16 + nS) (by omega) with d | d | ⟨j, hj, d⟩
        · exact Or.inr ⟨a, b, c, Or.inl (Int32.lt_of_lt_of_le d (by decide))⟩
        · refine Or.inr ⟨a, b, c, Or.inr ⟨?_, ?_⟩⟩
          · rw [Int32.not_lt, ← h16]
            exact Int32.le_trans (nI_le (by omega) (by omega)) d
          · rw [tf_16]
            exact d
        · rcases Nat.lt_or_ge j 16 with g | g
          · refine Or.inr ⟨a, b, c, Or.inl ?_⟩
            rw [d]
            exact nI_lt (b := 16) g (by omega)
          · exact Or.inl ⟨j - 16, by omega, by rw [d]; exact congrArg nI (by omega)⟩
theorem tf_m16 (n : Nat) : nI (16 + n) - 16 = nI n := by
  show nI (16 + n) - nI 16 = nI n
  rw [pk_sub (by omega), Nat.add_sub_cancel_left]
theorem tf_f16 {n : Nat} (h : n < 16) : (¬ nI (16 + n) = 0) ∧ (¬ nI (16 + n) = 1) ∧ (¬ nI (16 + n) = 2) ∧ ¬ nI (16 + n) < 16 := by
  refine ⟨nI_ne0 (by omega) (by omega), ?_, ?_, nI_nlt (b := 16) (by omega) (by omega)⟩
  · intro z
    have := (nI_eq (b := 1) (by omega) (by omega)).mp z
    omega
  · intro z
    have := (nI_eq (b := 2) (by omega) (by omega)).mp z
    omega
theorem tx_ci_f {nC nT nS nD nB nK : Nat} {ls rr rc sp fc : Int32} {L op kk su own ow tr xe al fl fA fC fT fP fB fH : Nat → Int32} {post : Int32 → Prop} (hK : nK ≤ 16) {v1 v2 : Int32} (h : ¬ tf_in v1 nK) (p : post (-3)) : wpX_componentInfo post (nI nC, nI nT, nI nS, nI nD, nI nB, nI nK, ls, rr, rc, sp, fc, L, op, kk, su, own, ow, tr, xe, al, fl, fA, fC, fT, fP, fB, fH) v1 v2 := by
  unfold wpX_componentInfo
  exact tx_isComponent_f hK h (br_t rfl p)
theorem tx_ci_0 {nC nT nS nD nB nK : Nat} {ls rr rc sp fc : Int32} {L op kk su own ow tr xe al fl fA fC fT fP fB fH : Nat → Int32} {post : Int32 → Prop} (hK : nK ≤ 16) {k : Nat} (hk : k < nK) (p : post (ow k)) : wpX_componentInfo post (nI nC, nI nT, nI nS, nI nD, nI nB, nI nK, ls, rr, rc, sp, fc, L, op, kk, su, own, ow, tr, xe, al, fl, fA, fC, fT, fP, fB, fH) (nI k) 0 := by
  unfold wpX_componentInfo
  refine tx_isComponent_t hK ⟨k, hk, rfl⟩ (br_f (by decide) (br_t rfl ⟨vp_in_nI (by omega) (by omega), ?_⟩))
  rw [nI_clamp (show k < 2 ^ 31 by omega)]
  exact p
theorem tx_ci_1 {nC nT nS nD nB nK : Nat} {ls rr rc sp fc : Int32} {L op kk su own ow tr xe al fl fA fC fT fP fB fH : Nat → Int32} {post : Int32 → Prop} (hK : nK ≤ 16) {k : Nat} (hk : k < nK) (p : post (tr k)) : wpX_componentInfo post (nI nC, nI nT, nI nS, nI nD, nI nB, nI nK, ls, rr, rc, sp, fc, L, op, kk, su, own, ow, tr, xe, al, fl, fA, fC, fT, fP, fB, fH) (nI k) 1 := by
  unfold wpX_componentInfo
  refine tx_isComponent_t hK ⟨k, hk, rfl⟩ (br_f (by decide) (br_f (by decide) (br_t rfl ⟨vp_in_nI (by omega) (by omega), ?_⟩)))
  rw [nI_clamp (show k < 2 ^ 31 by omega)]
  exact p
theorem tx_ci_2 {nC nT nS nD nB nK : Nat} {ls rr rc sp fc : Int32} {L op kk su own ow tr xe al fl fA fC fT fP fB fH : Nat → Int32} {post : Int32 → Prop} (hK : nK ≤ 16) {k : Nat} (hk : k < nK) (p : post (xe k)) : wpX_componentInfo post (nI nC, nI nT, nI nS, nI nD, nI nB, nI nK, ls, rr, rc, sp, fc, L, op, kk, su, own, ow, tr, xe, al, fl, fA, fC, fT, fP, fB, fH) (nI k) 2 := by
  unfold wpX_componentInfo
  refine tx_isComponent_t hK ⟨k, hk, rfl⟩ (br_f (by decide) (br_f (by decide) (br_f (by decide) (br_t rfl ⟨vp_in_nI (by omega) (by omega), ?_⟩))))
  rw [nI_clamp (show k < 2 ^ 31 by omega)]
  exact p
theorem tx_ci_a {nC nT nS nD nB nK : Nat} {ls rr rc sp fc : Int32} {L op kk su own ow tr xe al fl fA fC fT fP fB fH : Nat → Int32} {post : Int32 → Prop} (hK : nK ≤ 16) (hS : nS ≤ 16) {k n : Nat} (hk : k < nK) (hn : n < nS) (p : post (al (k * 16 + n))) : wpX_componentInfo post (nI nC, nI nT, nI nS, nI nD, nI nB, nI nK, ls, rr, rc, sp, fc, L, op, kk, su, own, ow, tr, xe, al, fl, fA, fC, fT, fP, fB, fH) (nI k) (nI (16 + n)) := by
  unfold wpX_componentInfo
  obtain ⟨a, b, c, d⟩ := tf_f16 (n := n) (by omega)
  refine tx_isComponent_t hK ⟨k, hk, rfl⟩ (br_f (by decide) (br_f a (br_f b (br_f c (br_f d (br_f ?_ ?_))))))
  · rw [tf_16]
    exact nI_ge (by omega) (by omega)
  · rw [tf_m16, tf_ix, nI_clamp (show k * 16 + n < 2 ^ 31 by omega)]
    exact ⟨vp_in_nI (by omega) (by omega), p⟩
theorem tx_ci_n {nC nT nS nD nB nK : Nat} {ls rr rc sp fc : Int32} {L op kk su own ow tr xe al fl fA fC fT fP fB fH : Nat → Int32} {post : Int32 → Prop} (hK : nK ≤ 16) {k : Nat} {v : Int32} (hk : k < nK) (h : ¬ v = 0 ∧ ¬ v = 1 ∧ ¬ v = 2 ∧ (v < 16 ∨ (¬ v < 16 ∧ 16 + nI nS ≤ v))) (p : post (-3)) : wpX_componentInfo post (nI nC, nI nT, nI nS, nI nD, nI nB, nI nK, ls, rr, rc, sp, fc, L, op, kk, su, own, ow, tr, xe, al, fl, fA, fC, fT, fP, fB, fH) (nI k) v := by
  unfold wpX_componentInfo
  obtain ⟨a, b, c, d⟩ := h
  refine tx_isComponent_t hK ⟨k, hk, rfl⟩ (br_f (by decide) (br_f a (br_f b (br_f c ?_))))
  rcases d with d | ⟨d, e⟩
  · exact br_t d p
  · exact br_f d (br_t e p)
def tf_st (su : Nat → Int32) (c q : Nat) : Int32 := if q = 1 ∨ q = 3 then su c else nI c
def tf_wh (q : Nat) : Int32 := if q < 2 then 0 else 1
theorem tf_st_cl {nC : Nat} {su : Nat → Int32} (hU : tf_SV nC su) {c : Nat} (hc : c < nC) (q : Nat) : tf_cl nC (tf_st su c q) := by
  unfold tf_st
  split
  · exact tf_SV_cl hU hc
  · exact Or.inr ⟨c, hc, rfl⟩
theorem tx_lk60 {nC nT nS nD nB nK : Nat} {ls rr rc sp fc : Int32} {L op kk su own ow tr xe al fl fA fC fT fP fB fH : Nat → Int32} {ex : Nat → Int32} {post : Int32 → Prop} (hC : nC ≤ 8) (hS : nS ≤ 16) (hF : tf_FL nC nT nS nK own ow tr ex al fl) (hU : tf_SV nC su) {s q : Nat} (hs : s < nS) (hq : q < 4) {x : Int32} (hx : tf_cl nC x) (p : post (tf_lw su (fun c => tf_PR own ow tr ex al nK c s) (tf_wh q) 8 x)) : wX_lookup_60 post (nI s) (nI q) x (nI nC) (nI nT) (nI nS) (nI nD) (nI nB) (nI nK) ls rr rc sp fc L op kk su own ow tr xe al fl fA fC fT fP fB fH := by
  unfold wX_lookup_60
  refine tx_findHome hC hS hF hU hs hx ?_
  rcases tf_fh_cl (P := fun c => tf_PR own ow tr ex al nK c s) hC hU 8 x hx with e | ⟨h, hh, e, hn⟩
  · rw [e]
    refine br_t rfl ?_
    unfold tf_lw at p
    rw [e] at p
    by_cases w : tf_wh q = 0
    · rw [if_pos w, if_pos rfl] at p
      exact p
    · rw [if_neg w] at p
      exact p
  · rw [e]
    refine br_f (tf_m1 (by omega)) ?_
    unfold tf_lw at p
    rw [e, if_neg (tf_m1 (by omega)), nI_clamp (show h < 2 ^ 31 by omega)] at p
    have g : fl (h * 16 + s) = tf_PR own ow tr ex al nK h s := hF h s (Or.inl hh) hs
    by_cases w : q < 2
    · have w2 : tf_wh q = 0 := if_pos w
      rw [if_pos w2] at p
      refine pk_eq q 2 (fun z => absurd z (by omega)) (fun _ => pk_eq q 3 (fun z => absurd z (by omega)) (fun _ => ?_))
      rw [tf_ix, nI_clamp (show h * 16 + s < 2 ^ 31 by omega), g]
      exact ⟨vp_in_nI (by omega) (by omega), p⟩
    · have w2 : ¬ tf_wh q = 0 := by
        unfold tf_wh
        rw [if_neg w]
        decide
      rw [if_neg w2] at p
      exact pk_eq q 2 (fun _ => p) (fun z => pk_eq q 3 (fun _ => p) (fun z2 => absurd z2 (by omega)))
theorem tx_lk_t {nC nT nS nD nB nK : Nat} {ls rr rc sp fc : Int32} {L op kk su own ow tr xe al fl fA fC fT fP fB fH : Nat → Int32} {ex : Nat → Int32} {post : Int32 → Prop} (hC : nC ≤ 8) (hS : nS ≤ 16) (hF : tf_FL nC nT nS nK own ow tr ex al fl) (hU : tf_SV nC su) {c s q : Nat} (hc : c < nC) (hs : s < nS) (hq : q < 4) (p : post (tf_lw su (fun c => tf_PR own ow tr ex al nK c s) (tf_wh q) 8 (tf_st su c q))) : wpX_lookup post (nI nC, nI nT, nI nS, nI nD, nI nB, nI nK, ls, rr, rc, sp, fc, L, op, kk, su, own, ow, tr, xe, al, fl, fA, fC, fT, fP, fB, fH) (nI c) (nI s) (nI q) := by
  unfold wpX_lookup
  have w := tx_lk60 (nD := nD) (nB := nB) (ls := ls) (rr := rr) (rc := rc) (sp := sp) (fc := fc) (L := L) (op := op) (kk := kk) (xe := xe) (fA := fA) (fC := fC) (fT := fT) (fP := fP) (fB := fB) (fH := fH) hC hS hF hU hs hq (tf_st_cl hU hc q) p
  refine tx_isClass_t hC ⟨c, hc, rfl⟩ (br_f (by decide) (tx_isSelector_t hS ⟨s, hs, rfl⟩ (br_f (by decide) (br_f (nI_pos (by omega)) (br_t (nI_le (b := 3) (by omega) (by omega)) ?_)))))
  have w43 : (q = 1 ∨ q = 3) → wX_lookup_43 post (nI c) (nI s) (nI q) 1 (nI nC) (nI nT) (nI nS) (nI nD) (nI nB) (nI nK) ls rr rc sp fc L op kk su own ow tr xe al fl fA fC fT fP fB fH := by
    intro h
    unfold tf_st at w
    rw [if_pos h] at w
    unfold wX_lookup_43
    rw [nI_clamp (show c < 2 ^ 31 by omega)]
    exact br_f (by decide) ⟨vp_in_nI (by omega) (by omega), w⟩
  refine pk_eq q 1 (fun h => w43 (Or.inl h)) (fun h => pk_eq q 3 (fun h2 => w43 (Or.inr h2)) (fun h2 => ?_))
  unfold tf_st at w
  rw [if_neg (by omega)] at w
  exact br_t rfl w
theorem tx_lk_f {nC nT nS nD nB nK : Nat} {ls rr rc sp fc : Int32} {L op kk su own ow tr xe al fl fA fC fT fP fB fH : Nat → Int32} {post : Int32 → Prop} (hC : nC ≤ 8) (hS : nS ≤ 16) {v1 v2 v3 : Int32} (h : ¬ (tf_in v1 nC ∧ tf_in v2 nS ∧ tf_in v3 4)) (p : post (-3)) : wpX_lookup post (nI nC, nI nT, nI nS, nI nD, nI nB, nI nK, ls, rr, rc, sp, fc, L, op, kk, su, own, ow, tr, xe, al, fl, fA, fC, fT, fP, fB, fH) v1 v2 v3 := by
  unfold wpX_lookup
  by_cases a : tf_in v1 nC
  · refine tx_isClass_t hC a (br_f (by decide) ?_)
    by_cases b : tf_in v2 nS
    · refine tx_isSelector_t hS b (br_f (by decide) ?_)
      rcases tf_nin (n := 4) (by omega) (fun c => h ⟨a, b, c⟩) with e | ⟨e, e2, _⟩
      · exact br_t e p
      · exact br_f e (br_f (fun z => absurd (Int32.le_trans e2 z) (by decide)) p)
    · exact tx_isSelector_f hS b (br_t rfl p)
  · exact tx_isClass_f hC a (br_t rfl p)
end
section
theorem tx_begin_t {nC nT nS nD nB nK : Nat} {ls rr rc sp fc : Int32} {L op kk su own ow tr xe al fl fA fC fT fP fB fH : Nat → Int32} {post : Int32 → St2 → Prop} (hB : nB < 16) (p : post (nI nB) (nI nC, nI nT, nI nS, nI nD, nI (nB + 1), nI nK, ls, rr, rc, sp, fc, L, op, kk, su, own, ow, tr, xe, al, fl, fA, fC, fT, fP, fB, fH)) : wpX_beginBody post (nI nC, nI nT, nI nS, nI nD, nI nB, nI nK, ls, rr, rc, sp, fc, L, op, kk, su, own, ow, tr, xe, al, fl, fA, fC, fT, fP, fB, fH) := by
  refine pk_eq nB 16 (fun z => absurd z (by omega)) (fun _ => nm_r (nI_1 nB) ?_)
  rw [nI_pred]
  exact p
theorem tx_begin_f {nC nT nS nD nB nK : Nat} {ls rr rc sp fc : Int32} {L op kk su own ow tr xe al fl fA fC fT fP fB fH : Nat → Int32} {post : Int32 → St2 → Prop} (hB : nB = 16) (p : post (-3) (nI nC, nI nT, nI nS, nI nD, nI nB, nI nK, ls, rr, rc, sp, fc, L, op, kk, su, own, ow, tr, xe, al, fl, fA, fC, fT, fP, fB, fH)) : wpX_beginBody post (nI nC, nI nT, nI nS, nI nD, nI nB, nI nK, ls, rr, rc, sp, fc, L, op, kk, su, own, ow, tr, xe, al, fl, fA, fC, fT, fP, fB, fH) := br_t (by rw [hB]; rfl) p
theorem tf_ft_k {nS o : Nat} {v k : Int32} (h : tf_ft nS o v k) : (o = 6 ∨ o = 7) → ∃ s, s < nS ∧ k = nI s := by
  intro ho
  rcases h with ⟨_, ⟨s, hs, e⟩, e2⟩ | ⟨a, _⟩ | ⟨a, _⟩
  · exact ⟨s, hs, e2.trans e⟩
  · omega
  · omega
/-- what setSuper takes beside a good first argument: nothing, or a lower number -/
theorem tf_sup (v : Int32) (c : Nat) (hc : c < 2 ^ 31) : (v = -1) ∨ (∃ d, d < c ∧ v = nI d) ∨ (¬ v = -1 ∧ ((v < (-1) ∧ v < 0) ∨ (¬ v < (-1) ∧ ¬ v < 0 ∧ ¬ v < nI c))) := by
  by_cases a : v = -1
  · exact Or.inl a
  · rcases pk_ix v hc with b | b | b
    · refine Or.inr (Or.inr ⟨a, Or.inl ⟨?_, b⟩⟩)
      rw [Int32.lt_iff_toInt_lt, show (0 : Int32).toInt = 0 from by decide] at b
      rw [Int32.lt_iff_toInt_lt, show (-1 : Int32).toInt = -1 from by decide]
      have h2 : v.toInt ≠ -1 := fun z => a (Int32.toInt_inj.mp (z.trans (show (-1 : Int) = (-1 : Int32).toInt from by decide)))
      omega
    · have b0 := tf_ge0 hc b
      refine Or.inr (Or.inr ⟨a, Or.inr ⟨fun z => b0 (Int32.lt_trans z (by decide)), b0, Int32.not_lt.mpr b⟩⟩)
    · exact Or.inr (Or.inl b)
theorem tx_sup_t {nC nT nS nD nB nK : Nat} {ls rr rc sp fc : Int32} {L op kk su own ow tr xe al fl fA fC fT fP fB fH : Nat → Int32} {post : Int32 → St2 → Prop} (hC : nC ≤ 8) {c : Nat} {x : Int32} (hc : c < nC) (hx : x = -1 ∨ ∃ d, d < c ∧ x = nI d) (p : post 1 (nI nC, nI nT, nI nS, nI nD, nI nB, nI nK, ls, rr, rc, sp, fc, L, op, kk, upd su c x, own, ow, tr, xe, al, fl, fA, fC, fT, fP, fB, fH)) : wpX_setSuper post (nI nC, nI nT, nI nS, nI nD, nI nB, nI nK, ls, rr, rc, sp, fc, L, op, kk, su, own, ow, tr, xe, al, fl, fA, fC, fT, fP, fB, fH) (nI c) x := by
  unfold wpX_setSuper
  have e : (nI c).toNatClampNeg = c := nI_clamp (by omega)
  have e2 : vp_in (nI c) 8 := vp_in_nI (by omega) (by omega)
  refine tx_isClass_t hC ⟨c, hc, rfl⟩ (br_f (by decide) ?_)
  rw [e]
  rcases hx with a | ⟨d, hd, a⟩
  · subst a
    exact br_f (by decide) (br_t (Int32.lt_of_lt_of_le (show (-1 : Int32) < 0 by decide) (nI_pos' (by omega))) ⟨e2, nm_e p⟩)
  · subst a
    exact br_f (fun z => nI_pos (n := d) (by omega) (Int32.lt_trans z (by decide))) (br_t (nI_lt hd (by omega)) ⟨e2, nm_e p⟩)
theorem tx_sup_f {nC nT nS nD nB nK : Nat} {ls rr rc sp fc : Int32} {L op kk su own ow tr xe al fl fA fC fT fP fB fH : Nat → Int32} {post : Int32 → St2 → Prop} (hC : nC ≤ 8) {v1 v2 : Int32} (h : ¬ tf_in v1 nC ∨ ∃ c, c < nC ∧ v1 = nI c ∧ ¬ v2 = -1 ∧ ((v2 < (-1) ∧ v2 < 0) ∨ (¬ v2 < (-1) ∧ ¬ v2 < 0 ∧ ¬ v2 < nI c))) (p : post 0 (nI nC, nI nT, nI nS, nI nD, nI nB, nI nK, ls, rr, rc, sp, fc, L, op, kk, su, own, ow, tr, xe, al, fl, fA, fC, fT, fP, fB, fH)) : wpX_setSuper post (nI nC, nI nT, nI nS, nI nD, nI nB, nI nK, ls, rr, rc, sp, fc, L, op, kk, su, own, ow, tr, xe, al, fl, fA, fC, fT, fP, fB, fH) v1 v2 := by
  unfold wpX_setSuper
  rcases h with a | ⟨c, hc, rfl, _, ⟨b, _⟩ | ⟨b, _, d⟩⟩
  · exact tx_isClass_f hC a (br_t rfl p)
  · exact tx_isClass_t hC ⟨c, hc, rfl⟩ (br_f (by decide) (br_t b p))
  · exact tx_isClass_t hC ⟨c, hc, rfl⟩ (br_f (by decide) (br_f b (br_f d p)))
theorem tx_sof_t {nC nT nS nD nB nK : Nat} {ls rr rc sp fc : Int32} {L op kk su own ow tr xe al fl fA fC fT fP fB fH : Nat → Int32} {post : Int32 → Prop} (hC : nC ≤ 8) {c : Nat} (hc : c < nC) (p : post (su c)) : wpX_superOf post (nI nC, nI nT, nI nS, nI nD, nI nB, nI nK, ls, rr, rc, sp, fc, L, op, kk, su, own, ow, tr, xe, al, fl, fA, fC, fT, fP, fB, fH) (nI c) := by
  unfold wpX_superOf
  refine tx_isClass_t hC ⟨c, hc, rfl⟩ (br_f (by decide) ⟨vp_in_nI (by omega) (by omega), ?_⟩)
  rw [nI_clamp (show c < 2 ^ 31 by omega)]
  exact p
end
section
/-! every editing call, whatever is asked, keeps the picture -/
theorem qa_begin {nC nT nS nD nB nK : Nat} {ls rr rc sp fc : Int32} {L op kk su own ow tr xe al fl fA fC fT fP fB fH : Nat → Int32} {post : Int32 → St2 → Prop} {ex : Nat → Int32} (h : tf_Ok nC nT nS nD nB nK L op kk su own ow tr xe ex al fl) (p0 : post (-3) (nI nC, nI nT, nI nS, nI nD, nI nB, nI nK, ls, rr, rc, sp, fc, L, op, kk, su, own, ow, tr, xe, al, fl, fA, fC, fT, fP, fB, fH)) (p1 : tf_Ok nC nT nS nD (nB + 1) nK L op kk su own ow tr xe ex al fl → post (nI nB) (nI nC, nI nT, nI nS, nI nD, nI (nB + 1), nI nK, ls, rr, rc, sp, fc, L, op, kk, su, own, ow, tr, xe, al, fl, fA, fC, fT, fP, fB, fH)) : wpX_beginBody post (nI nC, nI nT, nI nS, nI nD, nI nB, nI nK, ls, rr, rc, sp, fc, L, op, kk, su, own, ow, tr, xe, al, fl, fA, fC, fT, fP, fB, fH) := by
  obtain ⟨⟨hC, hT, hS, hD, hB, hK⟩, hL, hCE, hU, hO, hV, hA, hE, hF⟩ := id h
  by_cases c : nB = 16
  · exact tx_begin_f c p0
  · exact tx_begin_t (by omega) (p1 ⟨⟨hC, hT, hS, hD, by omega, hK⟩, tf_LV_begin hL, tf_CE_begin (by omega) hL hCE, hU, tf_OV_mono hO, hV, hA, hE, hF⟩)
theorem qa_emit {nC nT nS nD nB nK : Nat} {ls rr rc sp fc : Int32} {L op kk su own ow tr xe al fl fA fC fT fP fB fH : Nat → Int32} {post : Int32 → St2 → Prop} {ex : Nat → Int32} {v1 v2 : Int32} (h : tf_Ok nC nT nS nD nB nK L op kk su own ow tr xe ex al fl) (p : ∀ (r : Int32) (L' op' kk' : Nat → Int32), tf_Ok nC nT nS nD nB nK L' op' kk' su own ow tr xe ex al fl → post r (nI nC, nI nT, nI nS, nI nD, nI nB, nI nK, ls, rr, rc, sp, fc, L', op', kk', su, own, ow, tr, xe, al, fl, fA, fC, fT, fP, fB, fH)) : wpX_emit post (nI nC, nI nT, nI nS, nI nD, nI nB, nI nK, ls, rr, rc, sp, fc, L, op, kk, su, own, ow, tr, xe, al, fl, fA, fC, fT, fP, fB, fH) v1 v2 := by
  obtain ⟨⟨hC, hT, hS, hD, hB, hK⟩, hL, hCE, hU, hO, hV, hA, hE, hF⟩ := id h
  rcases Nat.eq_zero_or_pos nB with z | z
  · subst z
    exact tx_emit_0 (p 0 L op kk h)
  · obtain ⟨b, rfl⟩ : ∃ b, nB = b + 1 := ⟨nB - 1, by omega⟩
    by_cases a : tf_in v1 9
    · obtain ⟨o, ho, rfl⟩ := a
      obtain ⟨l, hl, el⟩ := hL.1 b (by omega)
      by_cases c : l = 16
      · subst c
        exact tx_emit_16 (by omega) ho el (p 0 L op kk h)
      · rcases tf_fit nS ho v2 with ⟨q, f⟩ | f
        · exact tx_emit_t hS.2 (by omega) ho el (by omega) f (p 1 _ _ _ ⟨⟨hC, hT, hS, hD, hB, hK⟩, tf_LV_emit hL (by omega) (by omega), tf_CE_emit hCE (by omega) (by omega) el (by omega) (tf_ft_k f), hU, hO, hV, hA, hE, hF⟩)
        · exact tx_emit_n hS.2 (by omega) ho el (by omega) f (p 0 L op kk h)
    · exact tx_emit_b (by omega) a (p 0 L op kk h)
theorem qa_define {nC nT nS nD nB nK : Nat} {ls rr rc sp fc : Int32} {L op kk su own ow tr xe al fl fA fC fT fP fB fH : Nat → Int32} {post : Int32 → St2 → Prop} {ex : Nat → Int32} {v1 v2 v3 : Int32} (h : tf_Ok nC nT nS nD nB nK L op kk su own ow tr xe ex al fl) (p : ∀ (r : Int32) (own' fl' : Nat → Int32), tf_Ok nC nT nS nD nB nK L op kk su own' ow tr xe ex al fl' → post r (nI nC, nI nT, nI nS, nI nD, nI nB, nI nK, ls, rr, rc, sp, fc, L, op, kk, su, own', ow, tr, xe, al, fl', fA, fC, fT, fP, fB, fH)) : wpX_define post (nI nC, nI nT, nI nS, nI nD, nI nB, nI nK, ls, rr, rc, sp, fc, L, op, kk, su, own, ow, tr, xe, al, fl, fA, fC, fT, fP, fB, fH) v1 v2 v3 := by
  obtain ⟨⟨hC, hT, hS, hD, hB, hK⟩, hL, hCE, hU, hO, hV, hA, hE, hF⟩ := id h
  by_cases a : tf_ow v1 nC nT ∧ tf_in v2 nS ∧ (v3 = -1 ∨ tf_in v3 nB)
  · obtain ⟨⟨j, hj, rfl⟩, ⟨s, hs, rfl⟩, hx⟩ := a
    exact tx_def_t hC.2 hT.2 hS.2 hK hB hE hV hj hs hx (fun g hg => p 1 _ g ⟨⟨hC, hT, hS, hD, hB, hK⟩, hL, hCE, hU, tf_OV_set hO hx, hV, hA, hE, hg⟩)
  · exact tx_def_f hC.2 hT.2 hS.2 hB a (p 0 own fl h)
theorem qa_use {nC nT nS nD nB nK : Nat} {ls rr rc sp fc : Int32} {L op kk su own ow tr xe al fl fA fC fT fP fB fH : Nat → Int32} {post : Int32 → St2 → Prop} {ex : Nat → Int32} {v1 v2 : Int32} (h : tf_Ok nC nT nS nD nB nK L op kk su own ow tr xe ex al fl) (p0 : post (-3) (nI nC, nI nT, nI nS, nI nD, nI nB, nI nK, ls, rr, rc, sp, fc, L, op, kk, su, own, ow, tr, xe, al, fl, fA, fC, fT, fP, fB, fH)) (p1 : ∀ (ow' tr' fl' : Nat → Int32), tf_Ok nC nT nS nD nB (nK + 1) L op kk su own ow' tr' xe ex al fl' → post (nI nK) (nI nC, nI nT, nI nS, nI nD, nI nB, nI (nK + 1), ls, rr, rc, sp, fc, L, op, kk, su, own, ow', tr', xe, al, fl', fA, fC, fT, fP, fB, fH)) : wpX_use post (nI nC, nI nT, nI nS, nI nD, nI nB, nI nK, ls, rr, rc, sp, fc, L, op, kk, su, own, ow, tr, xe, al, fl, fA, fC, fT, fP, fB, fH) v1 v2 := by
  obtain ⟨⟨hC, hT, hS, hD, hB, hK⟩, hL, hCE, hU, hO, hV, hA, hE, hF⟩ := id h
  by_cases a : tf_ow v1 nC nT
  · by_cases b : tf_in v2 nT
    · obtain ⟨j, hj, rfl⟩ := a
      obtain ⟨t, ht, rfl⟩ := b
      by_cases c : (8 ≤ j ∧ j ≤ t + 8) ∨ nK = 16
      · exact tx_use_g hC.2 hT.2 hj ht c p0
      · have hK' : nK < 16 := by omega
        have h8 : 8 ≤ j → t + 8 < j := by omega
        have hV' := tf_CV_use hS.2 hV (fun s hs => (hA nK (Nat.le_refl _) hK').2 s hs) (o := j) (u := t) (by omega) ht h8
        exact tx_use_t hC.2 hT.2 hS.2 hK' hE hj ht h8 hV' (fun g hg => p1 _ _ g ⟨⟨hC, hT, hS, hD, hB, hK'⟩, hL, hCE, hU, hO, hV', tf_AF_use hA, hE, hg⟩)
    · exact tx_use_f hC.2 hT.2 (Or.inr b) p0
  · exact tx_use_f hC.2 hT.2 (Or.inl a) p0
theorem qa_exclude {nC nT nS nD nB nK : Nat} {ls rr rc sp fc : Int32} {L op kk su own ow tr xe al fl fA fC fT fP fB fH : Nat → Int32} {post : Int32 → St2 → Prop} {ex : Nat → Int32} {v1 v2 : Int32} (h : tf_Ok nC nT nS nD nB nK L op kk su own ow tr xe ex al fl) (p : ∀ (r : Int32) (xe' ex' fl' : Nat → Int32), tf_Ok nC nT nS nD nB nK L op kk su own ow tr xe' ex' al fl' → post r (nI nC, nI nT, nI nS, nI nD, nI nB, nI nK, ls, rr, rc, sp, fc, L, op, kk, su, own, ow, tr, xe', al, fl', fA, fC, fT, fP, fB, fH)) : wpX_exclude post (nI nC, nI nT, nI nS, nI nD, nI nB, nI nK, ls, rr, rc, sp, fc, L, op, kk, su, own, ow, tr, xe, al, fl, fA, fC, fT, fP, fB, fH) v1 v2 := by
  obtain ⟨⟨hC, hT, hS, hD, hB, hK⟩, hL, hCE, hU, hO, hV, hA, hE, hF⟩ := id h
  by_cases a : tf_in v1 nK ∧ tf_in v2 nS
  · obtain ⟨⟨j, hj, rfl⟩, ⟨s, hs, rfl⟩⟩ := a
    exact tx_excl_t hC.2 hT.2 hS.2 hK hE hV hj hs (fun g hg => p 1 _ _ g ⟨⟨hC, hT, hS, hD, hB, hK⟩, hL, hCE, hU, hO, hV, tf_AF_excl hA hj, tf_EX_upd hS.2 hE (by omega) hs, hg⟩)
  · exact tx_excl_f hS.2 hK a (p 0 xe ex fl h)
theorem qa_alias {nC nT nS nD nB nK : Nat} {ls rr rc sp fc : Int32} {L op kk su own ow tr xe al fl fA fC fT fP fB fH : Nat → Int32} {post : Int32 → St2 → Prop} {ex : Nat → Int32} {v1 v2 v3 : Int32} (h : tf_Ok nC nT nS nD nB nK L op kk su own ow tr xe ex al fl) (p : ∀ (r : Int32) (al' fl' : Nat → Int32), tf_Ok nC nT nS nD nB nK L op kk su own ow tr xe ex al' fl' → post r (nI nC, nI nT, nI nS, nI nD, nI nB, nI nK, ls, rr, rc, sp, fc, L, op, kk, su, own, ow, tr, xe, al', fl', fA, fC, fT, fP, fB, fH)) : wpX_alias post (nI nC, nI nT, nI nS, nI nD, nI nB, nI nK, ls, rr, rc, sp, fc, L, op, kk, su, own, ow, tr, xe, al, fl, fA, fC, fT, fP, fB, fH) v1 v2 v3 := by
  obtain ⟨⟨hC, hT, hS, hD, hB, hK⟩, hL, hCE, hU, hO, hV, hA, hE, hF⟩ := id h
  by_cases a : tf_in v1 nK ∧ tf_in v2 nS ∧ tf_in v3 nS
  · obtain ⟨⟨j, hj, rfl⟩, ⟨n, hn, rfl⟩, ⟨r, hr, rfl⟩⟩ := a
    obtain ⟨_, _, _, _, _, _, _, h6⟩ := hV j hj
    rcases h6 n hn with e | ⟨q, hq, e⟩
    · exact tx_al_n hC.2 hT.2 hS.2 hK hE hj hn hr e (tf_CV_alias hV hr) (fun g hg => p 1 _ g ⟨⟨hC, hT, hS, hD, hB, hK⟩, hL, hCE, hU, hO, tf_CV_alias hV hr, tf_AF_alias hA hj (by omega), hE, hg⟩)
    · exact tx_al_o hS.2 hK hj hn hr hq e (p _ al fl h)
  · exact tx_al_f hS.2 hK a (p 0 al fl h)
theorem qa_setSuper {nC nT nS nD nB nK : Nat} {ls rr rc sp fc : Int32} {L op kk su own ow tr xe al fl fA fC fT fP fB fH : Nat → Int32} {post : Int32 → St2 → Prop} {ex : Nat → Int32} {v1 v2 : Int32} (h : tf_Ok nC nT nS nD nB nK L op kk su own ow tr xe ex al fl) (p : ∀ (r : Int32) (su' : Nat → Int32), tf_Ok nC nT nS nD nB nK L op kk su' own ow tr xe ex al fl → post r (nI nC, nI nT, nI nS, nI nD, nI nB, nI nK, ls, rr, rc, sp, fc, L, op, kk, su', own, ow, tr, xe, al, fl, fA, fC, fT, fP, fB, fH)) : wpX_setSuper post (nI nC, nI nT, nI nS, nI nD, nI nB, nI nK, ls, rr, rc, sp, fc, L, op, kk, su, own, ow, tr, xe, al, fl, fA, fC, fT, fP, fB, fH) v1 v2 := by
  obtain ⟨⟨hC, hT, hS, hD, hB, hK⟩, hL, hCE, hU, hO, hV, hA, hE, hF⟩ := id h
  by_cases a : tf_in v1 nC
  · obtain ⟨c, hc, rfl⟩ := a
    have good : (v2 = -1 ∨ ∃ d, d < c ∧ v2 = nI d) → wpX_setSuper post (nI nC, nI nT, nI nS, nI nD, nI nB, nI nK, ls, rr, rc, sp, fc, L, op, kk, su, own, ow, tr, xe, al, fl, fA, fC, fT, fP, fB, fH) (nI c) v2 := fun hx => tx_sup_t hC.2 hc hx (p 1 _ ⟨⟨hC, hT, hS, hD, hB, hK⟩, hL, hCE, tf_SV_set hU hx, hO, hV, hA, hE, hF⟩)
    rcases tf_sup v2 c (by omega) with b | b | b
    · exact good (Or.inl b)
    · exact good (Or.inr b)
    · exact tx_sup_f hC.2 (Or.inr ⟨c, hc, rfl, b⟩) (p 0 su h)
  · exact tx_sup_f hC.2 (Or.inl a) (p 0 su h)
/-! the law's own small methods -/
theorem qa_md0 {post : Int32 → Prop} {x n : Int32} (hn : ¬ n = 0) (p : ∀ r, post r) : wpL_md post () x n := ⟨hn, fun y _ => ⟨fun _ => p _, fun _ => p _⟩⟩
theorem qa_rem (x : Int32) {n : Nat} (h0 : 0 < n) (hn : n < 2 ^ 30) : -(n : Int) < (x - x / nI n * nI n).toInt ∧ (x - x / nI n * nI n).toInt < n := by
  rw [irem_eq_mod, Int32.toInt_mod, nI_toInt (by omega)]
  exact ⟨Int.lt_tmod_of_pos _ (by omega), Int.tmod_lt_of_pos _ (by omega)⟩
theorem qa_md {post : Int32 → Prop} {x : Int32} {n : Nat} (h0 : 0 < n) (hn : n < 2 ^ 30) (p : ∀ j, j < n → post (nI j)) : wpL_md post () x (nI n) := by
  have hr := qa_rem x h0 hn
  refine ⟨nI_ne0 h0 (by omega), nm_e (br_c (fun h => ?_) (fun h => ?_))⟩
  · generalize x - x / nI n * nI n = y at hr h
    obtain ⟨j, hj, rfl⟩ := nI_of (Int32.not_lt.mpr h)
    rw [nI_toInt hj] at hr
    exact p j (by omega)
  · generalize x - x / nI n * nI n = y at hr h
    have h2 : ¬ y.toInt ≥ 0 := by
      rw [Int32.le_iff_toInt_le, show (0 : Int32).toInt = 0 from by decide] at h
      exact h
    have e : (y + nI n).toInt = y.toInt + n := by
      rw [Int32.toInt_add, nI_toInt (by omega)]
      exact Int.bmod_eq_of_le (by omega) (by omega)
    have h3 : ¬ y + nI n < 0 := by
      rw [Int32.lt_iff_toInt_lt, show (0 : Int32).toInt = 0 from by decide, e]
      omega
    obtain ⟨j, hj, ej⟩ := nI_of h3
    rw [ej, nI_toInt hj] at e
    rw [ej]
    exact p j (by omega)
theorem qa_cell {post : Int32 → Prop} {N : Nat} {xs : Nat → Int32} {j : Nat} (hN : N < 2 ^ 31) (hj : j < 2 ^ 31) (p : ∀ r, post r) : wpL_cell post N xs () (nI j) := by
  refine pk_le (x := Int32.ofNat N) N j (fun _ => p _) (fun z => ⟨vp_in_nI z hN, p _⟩)
theorem qa_comb {post : Int32 → Prop} {a b : Int32} (p : post (tf_mg a b)) : wpL_comb post () a b := by
  unfold tf_mg at p
  by_cases c : b = -1
  · rw [if_pos c] at p
    exact br_t c p
  · rw [if_neg c] at p
    refine br_f c ?_
    by_cases c2 : a = -1
    · have c3 : ¬ b = a := fun z => c (z.trans c2)
      rw [if_neg c3, if_pos c2] at p
      exact br_t c2 p
    · refine br_f c2 ?_
      by_cases c3 : a = b
      · rw [if_pos c3.symm, c3] at p
        exact br_t c3 p
      · rw [if_neg (fun z => c3 z.symm), if_neg c2] at p
        exact br_f c3 p
/-! the pure facts behind the checks -/
theorem qa_shr {e s : Nat} (he : e < 65536) (hs : s < 16) : ((nI e >>> (nI s &&& 31)) &&& 1) = 0 ↔ e.testBit s = false := by
  rw [pk_shrN (by omega) _ s (s_l s (by omega))]
  show nI (e / 2 ^ s) &&& nI 1 = 0 ↔ _
  have h2 : e / 2 ^ s ≤ e := Nat.div_le_self _ _
  rw [nx_and, Nat.and_one_is_mod, ← nI_0, nI_eq (by omega) (by omega), Nat.testBit_eq_decide_div_mod_eq, decide_eq_false_iff_not]
  generalize e / 2 ^ s = z
  omega
theorem qa_exs {nS : Nat} {xe ex : Nat → Int32} (hS : nS ≤ 16) (h : tf_EX nS xe ex) {k s : Nat} (hk : k < 16) (hs : s < 16) : ((xe k >>> (nI s &&& 31)) &&& 1) = 0 ↔ ex (k * 16 + s) = 0 := by
  obtain ⟨e, he, h1, h2⟩ := h k hk
  have h3 := tf_p16 hS
  rw [h1, h2 s hs, qa_shr (by omega) hs]
  cases e.testBit s
  · exact ⟨fun _ => rfl, fun _ => rfl⟩
  · exact ⟨fun z => absurd z (by decide), fun z => absurd z (by decide)⟩
theorem qa_fh_m1 {su P : Nat → Int32} : ∀ n, tf_fh su P n (-1) = -1 := by
  intro n
  cases n with
  | zero => rfl
  | succ n =>
    simp only [tf_fh]
    rw [if_pos trivial]
theorem qa_fh_up {nC : Nat} {su P : Nat → Int32} (hC : nC ≤ 8) (hU : tf_SV nC su) : ∀ n c, c < n → c < nC → tf_fh su P n (nI c) = tf_fh su P (n + 1) (nI c) := by
  intro n
  induction n with
  | zero => intro c h; omega
  | succ n ih =>
    intro c h hc
    rw [tf_fh, tf_fh, if_neg (tf_m1 (by omega)), if_neg (tf_m1 (by omega)), nI_clamp (by omega)]
    by_cases z : P c = -1
    · rw [if_pos z, if_pos z]
      rcases hU c hc with e | ⟨d, hd, e⟩
      · rw [e, qa_fh_m1, qa_fh_m1]
      · rw [e]
        exact ih d (by omega) (by omega)
    · rw [if_neg z, if_neg z]
theorem qa_fh_s {su P : Nat → Int32} {c : Nat} (hc : c < 8) (z : ¬ P c = -1) : tf_fh su P 8 (nI c) = nI c := by
  rw [tf_fh, if_neg (tf_m1 (by omega)), nI_clamp (by omega), if_neg z]
theorem qa_fh_c {nC : Nat} {su P : Nat → Int32} (hC : nC ≤ 8) (hU : tf_SV nC su) {c : Nat} (hc : c < nC) (z : P c = -1) : tf_fh su P 8 (nI c) = tf_fh su P 8 (su c) := by
  rw [show tf_fh su P 8 (nI c) = tf_fh su P (7 + 1) (nI c) from rfl, tf_fh, if_neg (tf_m1 (by omega)), nI_clamp (by omega), if_pos z]
  rcases hU c hc with e | ⟨d, hd, e⟩
  · rw [e, qa_fh_m1, qa_fh_m1]
  · rw [e]
    exact qa_fh_up hC hU 7 d (by omega) (by omega)
end
section
/-! the law's checks of lookup -/
theorem qa_lk0 {nC nT nS nD nB nK : Nat} {ls rr rc sp fc : Int32} {L op kk su own ow tr xe al fl fA fC fT fP fB fH : Nat → Int32} {ex : Nat → Int32} {post : Int32 → Prop} (h : tf_Ok nC nT nS nD nB nK L op kk su own ow tr xe ex al fl) {c s : Nat} (hc : c < nC) (hs : s < nS) (p : post (tf_lw su (fun c => tf_PR own ow tr ex al nK c s) 0 8 (nI c))) : wpX_lookup post (nI nC, nI nT, nI nS, nI nD, nI nB, nI nK, ls, rr, rc, sp, fc, L, op, kk, su, own, ow, tr, xe, al, fl, fA, fC, fT, fP, fB, fH) (nI c) (nI s) 0 := by
  obtain ⟨⟨hC, hT, hS, hD, hB, hK⟩, hL, hCE, hU, hO, hV, hA, hE, hF⟩ := id h
  exact tx_lk_t (q := 0) hC.2 hS.2 hF hU hc hs (by omega) p
theorem qa_lk1 {nC nT nS nD nB nK : Nat} {ls rr rc sp fc : Int32} {L op kk su own ow tr xe al fl fA fC fT fP fB fH : Nat → Int32} {ex : Nat → Int32} {post : Int32 → Prop} (h : tf_Ok nC nT nS nD nB nK L op kk su own ow tr xe ex al fl) {c s : Nat} (hc : c < nC) (hs : s < nS) (p : post (tf_lw su (fun c => tf_PR own ow tr ex al nK c s) 0 8 (su c))) : wpX_lookup post (nI nC, nI nT, nI nS, nI nD, nI nB, nI nK, ls, rr, rc, sp, fc, L, op, kk, su, own, ow, tr, xe, al, fl, fA, fC, fT, fP, fB, fH) (nI c) (nI s) 1 := by
  obtain ⟨⟨hC, hT, hS, hD, hB, hK⟩, hL, hCE, hU, hO, hV, hA, hE, hF⟩ := id h
  exact tx_lk_t (q := 1) hC.2 hS.2 hF hU hc hs (by omega) p
theorem qa_lk2 {nC nT nS nD nB nK : Nat} {ls rr rc sp fc : Int32} {L op kk su own ow tr xe al fl fA fC fT fP fB fH : Nat → Int32} {ex : Nat → Int32} {post : Int32 → Prop} (h : tf_Ok nC nT nS nD nB nK L op kk su own ow tr xe ex al fl) {c s : Nat} (hc : c < nC) (hs : s < nS) (p : post (tf_lw su (fun c => tf_PR own ow tr ex al nK c s) 1 8 (nI c))) : wpX_lookup post (nI nC, nI nT, nI nS, nI nD, nI nB, nI nK, ls, rr, rc, sp, fc, L, op, kk, su, own, ow, tr, xe, al, fl, fA, fC, fT, fP, fB, fH) (nI c) (nI s) 2 := by
  obtain ⟨⟨hC, hT, hS, hD, hB, hK⟩, hL, hCE, hU, hO, hV, hA, hE, hF⟩ := id h
  exact tx_lk_t (q := 2) hC.2 hS.2 hF hU hc hs (by omega) p
theorem qa_lk3 {nC nT nS nD nB nK : Nat} {ls rr rc sp fc : Int32} {L op kk su own ow tr xe al fl fA fC fT fP fB fH : Nat → Int32} {ex : Nat → Int32} {post : Int32 → Prop} (h : tf_Ok nC nT nS nD nB nK L op kk su own ow tr xe ex al fl) {c s : Nat} (hc : c < nC) (hs : s < nS) (p : post (tf_lw su (fun c => tf_PR own ow tr ex al nK c s) 1 8 (su c))) : wpX_lookup post (nI nC, nI nT, nI nS, nI nD, nI nB, nI nK, ls, rr, rc, sp, fc, L, op, kk, su, own, ow, tr, xe, al, fl, fA, fC, fT, fP, fB, fH) (nI c) (nI s) 3 := by
  obtain ⟨⟨hC, hT, hS, hD, hB, hK⟩, hL, hCE, hU, hO, hV, hA, hE, hF⟩ := id h
  exact tx_lk_t (q := 3) hC.2 hS.2 hF hU hc hs (by omega) p
theorem qa_lw_eq {su P : Nat → Int32} {w x y : Int32} (e : tf_fh su P 8 x = tf_fh su P 8 y) : tf_lw su P w 8 x = tf_lw su P w 8 y := by
  unfold tf_lw
  rw [e]
theorem qa_734 {nC nT nS nD nB nK : Nat} {ls rr rc sp fc : Int32} {L op kk su own ow tr xe al fl fA fC fT fP fB fH : Nat → Int32} {ex : Nat → Int32} {post : Int32 → Prop} {N : Nat} {xs : Nat → Int32} {J112 : Int32 → Int32 → Int32 → Int32 → Int32 → Int32 → Int32 → Int32 → Int32 → Int32 → Int32 → Int32 → Int32 → Int32 → (Nat → Int32) → (Nat → Int32) → (Nat → Int32) → (Nat → Int32) → (Nat → Int32) → (Nat → Int32) → (Nat → Int32) → (Nat → Int32) → (Nat → Int32) → (Nat → Int32) → (Nat → Int32) → (Nat → Int32) → (Nat → Int32) → (Nat → Int32) → (Nat → Int32) → (Nat → Int32) → Prop} {J674 J692 : Int32 → Prop} {x5 x6 x7 x8 x10 x12 x13 : Int32} {kc ks : Nat} (h : tf_Ok nC nT nS nD nB nK L op kk su own ow tr xe ex al fl) {c s : Nat} (hc : c < nC) (hs : s < nS) (e12 : x12 = tf_lw su (fun c => tf_PR own ow tr ex al nK c s) 0 8 (su c)) (e13 : x13 = tf_lw su (fun c => tf_PR own ow tr ex al nK c s) 1 8 (su c)) (J : J692 (nI (s + 1))) : wL_law_734 post N xs J112 J674 J692 (nI nC) (nI nT) (nI nS) x5 x6 x7 x8 (nI c) x10 (nI s) x12 x13 kc ks (nI nC) (nI nT) (nI nS) (nI nD) (nI nB) (nI nK) ls rr rc sp fc L op kk su own ow tr xe al fl fA fC fT fP fB fH := by
  obtain ⟨⟨hC, hT, hS, hD, hB, hK⟩, hL, hCE, hU, hO, hV, hA, hE, hF⟩ := id h
  unfold wL_law_734
  refine qa_lk1 h hc hs (qa_lk3 h hc hs (br_t e12.symm (br_t e13.symm (tx_prov_t hC.2 hT.2 hS.2 (Or.inl hc) hs ?_))))
  rw [hF c s (Or.inl hc) hs]
  refine qa_lk0 h hc hs (qa_lk2 h hc hs ?_)
  by_cases z : tf_PR own ow tr ex al nK c s = -1
  · have e := qa_fh_c (P := fun c => tf_PR own ow tr ex al nK c s) hC.2 hU hc z
    exact br_t z (br_t (qa_lw_eq e) (br_t (qa_lw_eq e) (nm_r (nI_1 s) J)))
  · have e := qa_fh_s (su := su) (P := fun c => tf_PR own ow tr ex al nK c s) (c := c) (by omega) z
    refine br_f z (br_t ?_ (br_t ?_ (nm_r (nI_1 s) J)))
    · unfold tf_lw
      rw [if_pos rfl, e, if_neg (tf_m1 (by omega)), nI_clamp (by omega)]
    · unfold tf_lw
      rw [if_neg (by decide), e]
theorem qa_692 {nC nT nS nD nB nK : Nat} {ls rr rc sp fc : Int32} {L op kk su own ow tr xe al fl fA fC fT fP fB fH : Nat → Int32} {ex : Nat → Int32} {post : Int32 → Prop} {N : Nat} {xs : Nat → Int32} {J112 : Int32 → Int32 → Int32 → Int32 → Int32 → Int32 → Int32 → Int32 → Int32 → Int32 → Int32 → Int32 → Int32 → Int32 → (Nat → Int32) → (Nat → Int32) → (Nat → Int32) → (Nat → Int32) → (Nat → Int32) → (Nat → Int32) → (Nat → Int32) → (Nat → Int32) → (Nat → Int32) → (Nat → Int32) → (Nat → Int32) → (Nat → Int32) → (Nat → Int32) → (Nat → Int32) → (Nat → Int32) → (Nat → Int32) → Prop} {J674 : Int32 → Prop} {x5 x6 x7 x8 : Int32} {kc ks : Nat} (h : tf_Ok nC nT nS nD nB nK L op kk su own ow tr xe ex al fl) {c : Nat} (hc : c < nC) (J : J674 (nI (c + 1))) : ∀ d s, s + d = nS → wL_law_692 post N xs J112 J674 (nI nC) (nI nT) (nI nS) x5 x6 x7 x8 (nI c) (su c) kc ks (nI nC) (nI nT) (nI nS) (nI nD) (nI nB) (nI nK) ls rr rc sp fc L op kk su own ow tr xe al fl fA fC fT fP fB fH (d + 1) (nI s) := by
  obtain ⟨⟨hC, hT, hS, hD, hB, hK⟩, hL, hCE, hU, hO, hV, hA, hE, hF⟩ := id h
  intro d
  induction d with
  | zero =>
    intro s hs
    have e : s = nS := by omega
    rw [e]
    exact br_t Int32.le_rfl (nm_r (nI_1 c) J)
  | succ d ih =>
    intro s hs
    have t := ih (s + 1) (by omega)
    refine br_f (nI_ge (by omega) (by omega)) ?_
    rcases hU c hc with e | ⟨q, hq, e⟩
    · refine br_t e (qa_734 h hc (by omega) ?_ ?_ t)
      · unfold tf_lw
        rw [if_pos rfl, e, qa_fh_m1, if_pos rfl]
      · unfold tf_lw
        rw [if_neg (by decide), e, qa_fh_m1]
    · refine br_f (by rw [e]; exact tf_m1 (by omega)) ?_
      rw [e]
      rw [e] at t
      refine qa_lk0 h (by omega) (by omega) (qa_lk2 h (by omega) (by omega) (qa_734 h hc (by omega) ?_ ?_ t))
      · rw [e]
      · rw [e]
theorem qa_674 {nC nT nS nD nB nK : Nat} {ls rr rc sp fc : Int32} {L op kk su own ow tr xe al fl fA fC fT fP fB fH : Nat → Int32} {ex : Nat → Int32} {post : Int32 → Prop} {N : Nat} {xs : Nat → Int32} {J112 : Int32 → Int32 → Int32 → Int32 → Int32 → Int32 → Int32 → Int32 → Int32 → Int32 → Int32 → Int32 → Int32 → Int32 → (Nat → Int32) → (Nat → Int32) → (Nat → Int32) → (Nat → Int32) → (Nat → Int32) → (Nat → Int32) → (Nat → Int32) → (Nat → Int32) → (Nat → Int32) → (Nat → Int32) → (Nat → Int32) → (Nat → Int32) → (Nat → Int32) → (Nat → Int32) → (Nat → Int32) → (Nat → Int32) → Prop} {x5 x6 x7 x8 : Int32} {kc ks : Nat} (h : tf_Ok nC nT nS nD nB nK L op kk su own ow tr xe ex al fl) (J : ∀ y, y = x8 + 1 → J112 x5 x6 y (nI nC) (nI nT) (nI nS) (nI nD) (nI nB) (nI nK) ls rr rc sp fc L op kk su own ow tr xe al fl fA fC fT fP fB fH) : ∀ d c, c + d = nC → wL_law_674 post N xs J112 (nI nC) (nI nT) (nI nS) x5 x6 x7 x8 kc ks (nI nC) (nI nT) (nI nS) (nI nD) (nI nB) (nI nK) ls rr rc sp fc L op kk su own ow tr xe al fl fA fC fT fP fB fH (d + 1) (nI c) := by
  obtain ⟨⟨hC, hT, hS, hD, hB, hK⟩, hL, hCE, hU, hO, hV, hA, hE, hF⟩ := id h
  intro d
  induction d with
  | zero =>
    intro c hc
    have e : c = nC := by omega
    rw [e]
    exact br_t Int32.le_rfl J
  | succ d ih =>
    intro c hc
    exact br_f (nI_ge (by omega) (by omega)) (tx_sof_t hC.2 (by omega) ⟨nS + 1, qa_692 h (by omega) (ih (c + 1) (by omega)) nS 0 (by omega)⟩)
/-! the law's checks of provided -/
theorem qa_pv {nC nT nS nD nB nK : Nat} {ls rr rc sp fc : Int32} {L op kk su own ow tr xe al fl fA fC fT fP fB fH : Nat → Int32} {ex : Nat → Int32} {post : Int32 → Prop} (h : tf_Ok nC nT nS nD nB nK L op kk su own ow tr xe ex al fl) {u s : Nat} (hu : u < nT) (hs : s < nS) (p : post (tf_pv own ow tr ex al nK (u * 16 + s))) : wpX_provided post (nI nC, nI nT, nI nS, nI nD, nI nB, nI nK, ls, rr, rc, sp, fc, L, op, kk, su, own, ow, tr, xe, al, fl, fA, fC, fT, fP, fB, fH) (nI (8 + u)) (nI s) := by
  obtain ⟨⟨hC, hT, hS, hD, hB, hK⟩, hL, hCE, hU, hO, hV, hA, hE, hF⟩ := id h
  refine tx_prov_t hC.2 hT.2 hS.2 (Or.inr ⟨by omega, by omega⟩) hs ?_
  rw [hF (8 + u) s (Or.inr ⟨by omega, by omega⟩) hs, tf_PR_tr hT.2 hS.2 hV (by omega) hs]
  exact p
theorem qa_643 {nC nT nS nD nB nK : Nat} {ls rr rc sp fc : Int32} {L op kk su own ow tr xe al fl fA fC fT fP fB fH : Nat → Int32} {ex : Nat → Int32} {post : Int32 → Prop} {N : Nat} {xs : Nat → Int32} {J112 : Int32 → Int32 → Int32 → Int32 → Int32 → Int32 → Int32 → Int32 → Int32 → Int32 → Int32 → Int32 → Int32 → Int32 → (Nat → Int32) → (Nat → Int32) → (Nat → Int32) → (Nat → Int32) → (Nat → Int32) → (Nat → Int32) → (Nat → Int32) → (Nat → Int32) → (Nat → Int32) → (Nat → Int32) → (Nat → Int32) → (Nat → Int32) → (Nat → Int32) → (Nat → Int32) → (Nat → Int32) → (Nat → Int32) → Prop} {J466 J497 : Int32 → Prop} {x5 x6 x7 x8 x9 x13 : Int32} {kc ks : Nat} (h : tf_Ok nC nT nS nD nB nK L op kk su own ow tr xe ex al fl) {o s : Nat} (ho : o < nC ∨ (8 ≤ o ∧ o < 8 + nT)) (hs : s < nS) (e : x13 = tf_PR own ow tr ex al nK o s) (J : J497 (nI (s + 1))) : wL_law_643 post N xs J112 J466 J497 (nI nC) (nI nT) (nI nS) x5 x6 x7 x8 x9 (nI o) (nI s) x13 kc ks (nI nC) (nI nT) (nI nS) (nI nD) (nI nB) (nI nK) ls rr rc sp fc L op kk su own ow tr xe al fl fA fC fT fP fB fH := by
  obtain ⟨⟨hC, hT, hS, hD, hB, hK⟩, hL, hCE, hU, hO, hV, hA, hE, hF⟩ := id h
  unfold wL_law_643
  refine tx_prov_t hC.2 hT.2 hS.2 ho hs ?_
  rw [hF o s ho hs]
  exact br_t e.symm (nm_r (nI_1 s) J)
theorem qa_601 {nC nT nS nD nB nK : Nat} {ls rr rc sp fc : Int32} {L op kk su own ow tr xe al fl fA fC fT fP fB fH : Nat → Int32} {ex : Nat → Int32} {post : Int32 → Prop} {N : Nat} {xs : Nat → Int32} {J112 : Int32 → Int32 → Int32 → Int32 → Int32 → Int32 → Int32 → Int32 → Int32 → Int32 → Int32 → Int32 → Int32 → Int32 → (Nat → Int32) → (Nat → Int32) → (Nat → Int32) → (Nat → Int32) → (Nat → Int32) → (Nat → Int32) → (Nat → Int32) → (Nat → Int32) → (Nat → Int32) → (Nat → Int32) → (Nat → Int32) → (Nat → Int32) → (Nat → Int32) → (Nat → Int32) → (Nat → Int32) → (Nat → Int32) → Prop} {J466 J497 : Int32 → Prop} {J533 : Int32 → Int32 → Prop} {x5 x6 x7 x8 x9 x10 x13 : Int32} {kc ks : Nat} (h : tf_Ok nC nT nS nD nB nK L op kk su own ow tr xe ex al fl) {k s u : Nat} (hk : k < nK) (hs : s < nS) (hu : u < nT) (eu : tr k = nI u) (ha : al (k * 16 + s) = -1 ∨ ∃ r, r < nS ∧ al (k * 16 + s) = nI r) (J : J533 (tf_mg x13 (tf_ac tr al (tf_pv own ow tr ex al nK) k s)) (nI (k + 1))) : wL_law_601 post N xs J112 J466 J497 J533 (nI nC) (nI nT) (nI nS) x5 x6 x7 x8 x9 x10 (nI s) x13 (nI k) (nI (8 + u)) kc ks (nI nC) (nI nT) (nI nS) (nI nD) (nI nB) (nI nK) ls rr rc sp fc L op kk su own ow tr xe al fl fA fC fT fP fB fH := by
  obtain ⟨⟨hC, hT, hS, hD, hB, hK⟩, hL, hCE, hU, hO, hV, hA, hE, hF⟩ := id h
  unfold wL_law_601
  rw [tf_16]
  refine tx_ci_a hK hS.2 hk hs ?_
  unfold tf_ac at J
  rcases ha with a | ⟨r, hr, a⟩
  · rw [if_pos a, tf_mg_n] at J
    exact br_t a (nm_r (nI_1 k) J)
  · rw [a, if_neg (tf_m1 (by omega)), eu, nI_clamp (show u < 2 ^ 31 by omega), nI_clamp (show r < 2 ^ 31 by omega)] at J
    rw [a]
    exact br_f (tf_m1 (by omega)) (qa_pv h hu hr (qa_comb (nm_r (nI_1 k) J)))
theorem qa_533 {nC nT nS nD nB nK : Nat} {ls rr rc sp fc : Int32} {L op kk su own ow tr xe al fl fA fC fT fP fB fH : Nat → Int32} {ex : Nat → Int32} {post : Int32 → Prop} {N : Nat} {xs : Nat → Int32} {J112 : Int32 → Int32 → Int32 → Int32 → Int32 → Int32 → Int32 → Int32 → Int32 → Int32 → Int32 → Int32 → Int32 → Int32 → (Nat → Int32) → (Nat → Int32) → (Nat → Int32) → (Nat → Int32) → (Nat → Int32) → (Nat → Int32) → (Nat → Int32) → (Nat → Int32) → (Nat → Int32) → (Nat → Int32) → (Nat → Int32) → (Nat → Int32) → (Nat → Int32) → (Nat → Int32) → (Nat → Int32) → (Nat → Int32) → Prop} {J466 J497 : Int32 → Prop} {x5 x6 x7 x8 x9 : Int32} {kc ks : Nat} (h : tf_Ok nC nT nS nD nB nK L op kk su own ow tr xe ex al fl) {o s : Nat} (ho : o < nC ∨ (8 ≤ o ∧ o < 8 + nT)) (hs : s < nS) (z : own (o * 16 + s) = -1) (J : J497 (nI (s + 1))) : ∀ d k c, k + d = 16 → (k ≤ nK → c = k) → (nK < k → c = nK) → wL_law_533 post N xs J112 J466 J497 (nI nC) (nI nT) (nI nS) x5 x6 x7 x8 x9 (nI o) (nI s) kc ks (nI nC) (nI nT) (nI nS) (nI nD) (nI nB) (nI nK) ls rr rc sp fc L op kk su own ow tr xe al fl fA fC fT fP fB fH (d + 1) (tf_cs ow tr ex al (tf_pv own ow tr ex al nK) o s c) (nI k) := by
  obtain ⟨⟨hC, hT, hS, hD, hB, hK⟩, hL, hCE, hU, hO, hV, hA, hE, hF⟩ := id h
  intro d
  induction d with
  | zero =>
    intro k c hk h1 h2
    have e : c = nK := by
      rcases Nat.lt_or_ge nK k with a | a
      · exact h2 a
      · have := h1 a
        omega
    refine br_t (nI_le (a := 16) (by omega) (by omega)) (qa_643 h ho hs ?_ J)
    rw [e]
    unfold tf_PR tf_pf
    rw [if_pos z]
  | succ d ih =>
    intro k c hk h1 h2
    refine br_f (nI_ge (b := 16) (by omega) (by omega)) ?_
    by_cases hkn : k < nK
    · have ec := h1 (by omega)
      subst ec
      obtain ⟨o', u, g1, g2, g3, g4, g5, g6⟩ := hV c hkn
      have t := ih (c + 1) (c + 1) (by omega) (fun _ => rfl) (fun z => absurd z (by omega))
      simp only [tf_cs] at t
      refine tx_ci_0 hK hkn ?_
      by_cases cc : ow c = nI o
      · rw [if_pos cc] at t
        refine br_t cc (tx_ci_1 hK hkn (nm_r (by rw [g2, tf_8]) (tx_ci_2 hK hkn ?_)))
        have hx := qa_exs hS.2 hE (k := c) (s := s) (by omega) (by omega)
        unfold tf_dc at t
        by_cases x0 : ex (c * 16 + s) = 0
        · rw [if_pos x0, g2, nI_clamp (show u < 2 ^ 31 by omega)] at t
          exact br_t (hx.mpr x0) (qa_pv h g4 hs (qa_comb (qa_601 h hkn hs g4 g2 (g6 s hs) t)))
        · rw [if_neg x0, tf_mg_n] at t
          exact br_f (fun y => x0 (hx.mp y)) (qa_601 h hkn hs g4 g2 (g6 s hs) t)
      · rw [if_neg cc] at t
        exact br_f cc (nm_r (nI_1 c) t)
    · have ec : c = nK := by
        rcases Nat.lt_or_ge nK k with a | a
        · exact h2 a
        · have := h1 a
          omega
      refine tx_ci_f hK (fun ⟨j, hj, e⟩ => hkn ?_) (br_f ?_ (nm_r (nI_1 k) (ih (k + 1) c (by omega) (fun y => absurd y (by omega)) (fun _ => ec))))
      · have := (nI_eq (by omega) (by omega)).mp e
        omega
      · intro y
        have y2 := congrArg Int32.toInt y
        rw [nI_toInt (by omega), show (-3 : Int32).toInt = -3 from by decide] at y2
        omega
theorem qa_497 {nC nT nS nD nB nK : Nat} {ls rr rc sp fc : Int32} {L op kk su own ow tr xe al fl fA fC fT fP fB fH : Nat → Int32} {ex : Nat → Int32} {post : Int32 → Prop} {N : Nat} {xs : Nat → Int32} {J112 : Int32 → Int32 → Int32 → Int32 → Int32 → Int32 → Int32 → Int32 → Int32 → Int32 → Int32 → Int32 → Int32 → Int32 → (Nat → Int32) → (Nat → Int32) → (Nat → Int32) → (Nat → Int32) → (Nat → Int32) → (Nat → Int32) → (Nat → Int32) → (Nat → Int32) → (Nat → Int32) → (Nat → Int32) → (Nat → Int32) → (Nat → Int32) → (Nat → Int32) → (Nat → Int32) → (Nat → Int32) → (Nat → Int32) → Prop} {J466 : Int32 → Prop} {x5 x6 x7 x8 x9 : Int32} {kc ks : Nat} (h : tf_Ok nC nT nS nD nB nK L op kk su own ow tr xe ex al fl) {o : Nat} (ho : o < nC ∨ (8 ≤ o ∧ o < 8 + nT)) (J : ∀ y, y = x9 + 1 → J466 y) : ∀ d s, s + d = nS → wL_law_497 post N xs J112 J466 (nI nC) (nI nT) (nI nS) x5 x6 x7 x8 x9 (nI o) kc ks (nI nC) (nI nT) (nI nS) (nI nD) (nI nB) (nI nK) ls rr rc sp fc L op kk su own ow tr xe al fl fA fC fT fP fB fH (d + 1) (nI s) := by
  obtain ⟨⟨hC, hT, hS, hD, hB, hK⟩, hL, hCE, hU, hO, hV, hA, hE, hF⟩ := id h
  intro d
  induction d with
  | zero =>
    intro s hs
    have e : s = nS := by omega
    rw [e]
    exact br_t Int32.le_rfl J
  | succ d ih =>
    intro s hs
    have t := ih (s + 1) (by omega)
    refine br_f (nI_ge (by omega) (by omega)) (tx_own_t hC.2 hT.2 hS.2 ho (by omega) ?_)
    by_cases z : own (o * 16 + s) = -1
    · exact br_t z ⟨17, qa_533 h ho (by omega) z t 16 0 0 rfl (fun _ => rfl) (fun y => absurd y (by omega))⟩
    · refine br_f z (qa_643 h ho (by omega) ?_ t)
      unfold tf_PR tf_pf
      rw [if_neg z]
theorem qa_466 {nC nT nS nD nB nK : Nat} {ls rr rc sp fc : Int32} {L op kk su own ow tr xe al fl fA fC fT fP fB fH : Nat → Int32} {ex : Nat → Int32} {post : Int32 → Prop} {N : Nat} {xs : Nat → Int32} {J112 : Int32 → Int32 → Int32 → Int32 → Int32 → Int32 → Int32 → Int32 → Int32 → Int32 → Int32 → Int32 → Int32 → Int32 → (Nat → Int32) → (Nat → Int32) → (Nat → Int32) → (Nat → Int32) → (Nat → Int32) → (Nat → Int32) → (Nat → Int32) → (Nat → Int32) → (Nat → Int32) → (Nat → Int32) → (Nat → Int32) → (Nat → Int32) → (Nat → Int32) → (Nat → Int32) → (Nat → Int32) → (Nat → Int32) → Prop} {x5 x6 x7 x8 : Int32} {kc ks : Nat} (h : tf_Ok nC nT nS nD nB nK L op kk su own ow tr xe ex al fl) (J : ∀ y, y = x8 + 1 → J112 x5 x6 y (nI nC) (nI nT) (nI nS) (nI nD) (nI nB) (nI nK) ls rr rc sp fc L op kk su own ow tr xe al fl fA fC fT fP fB fH) : ∃ n, wL_law_466 post N xs J112 (nI nC) (nI nT) (nI nS) x5 x6 x7 x8 kc ks (nI nC) (nI nT) (nI nS) (nI nD) (nI nB) (nI nK) ls rr rc sp fc L op kk su own ow tr xe al fl fA fC fT fP fB fH n 0 := by
  obtain ⟨⟨hC, hT, hS, hD, hB, hK⟩, hL, hCE, hU, hO, hV, hA, hE, hF⟩ := id h
  have main : ∀ d i, i + d = nC + nT → wL_law_466 post N xs J112 (nI nC) (nI nT) (nI nS) x5 x6 x7 x8 kc ks (nI nC) (nI nT) (nI nS) (nI nD) (nI nB) (nI nK) ls rr rc sp fc L op kk su own ow tr xe al fl fA fC fT fP fB fH (d + 1) (nI i) := by
    intro d
    induction d with
    | zero =>
      intro i hi
      refine br_t ?_ ⟨nC + 1, qa_674 h J nC 0 (by omega)⟩
      rw [nI_add]
      exact nI_le (by omega) (by omega)
    | succ d ih =>
      intro i hi
      have t := ih (i + 1) (by omega)
      refine br_f ?_ (pk_le nC i (fun z => ?_) (fun z => ?_))
      · rw [nI_add]
        exact nI_ge (by omega) (by omega)
      · refine nm_r (e' := nI (8 + (i - nC))) ?_ ⟨nS + 1, qa_497 h (Or.inr ⟨by omega, by omega⟩) (nm_r (nI_1 i) t) nS 0 (by omega)⟩
        rw [tf_8, pk_sub (by omega)]
        exact congrArg nI (by omega)
      · exact ⟨nS + 1, qa_497 h (Or.inl z) (nm_r (nI_1 i) t) nS 0 (by omega)⟩
  exact ⟨nC + nT + 1, main (nC + nT) 0 (by omega)⟩
end
section
/-! one step of the law -/
theorem qa_n1 {n : Nat} (h : n < 1000) : ¬ nI n + 1 = 0 := by
  rw [nI_1]
  exact nI_ne0 (by omega) (by omega)
theorem qa_247 {nC nT nS nD nB nK : Nat} {ls rr rc sp fc : Int32} {L op kk su own ow tr xe al fl fA fC fT fP fB fH : Nat → Int32} {ex : Nat → Int32} {post : Int32 → Prop} {N : Nat} {xs : Nat → Int32} {J112 : Int32 → Int32 → Int32 → Int32 → Int32 → Int32 → Int32 → Int32 → Int32 → Int32 → Int32 → Int32 → Int32 → Int32 → (Nat → Int32) → (Nat → Int32) → (Nat → Int32) → (Nat → Int32) → (Nat → Int32) → (Nat → Int32) → (Nat → Int32) → (Nat → Int32) → (Nat → Int32) → (Nat → Int32) → (Nat → Int32) → (Nat → Int32) → (Nat → Int32) → (Nat → Int32) → (Nat → Int32) → (Nat → Int32) → Prop} {x7 x8 : Int32} {kc ks : Nat} {x12 x13 : Int32} (H : ∀ (nB nK : Nat) (L op kk su own ow tr xe ex al fl : Nat → Int32), tf_Ok nC nT nS nD nB nK L op kk su own ow tr xe ex al fl → ∃ n, wL_law_466 post N xs J112 (nI nC) (nI nT) (nI nS) (nI nB) (nI nK) x7 x8 kc ks (nI nC) (nI nT) (nI nS) (nI nD) (nI nB) (nI nK) ls rr rc sp fc L op kk su own ow tr xe al fl fA fC fT fP fB fH n 0) (h : tf_Ok nC nT nS nD nB nK L op kk su own ow tr xe ex al fl) : wL_law_247 post N xs J112 (nI nC) (nI nT) (nI nS) (nI nB) (nI nK) x7 x8 x12 x13 kc ks (nI nC) (nI nT) (nI nS) (nI nD) (nI nB) (nI nK) ls rr rc sp fc L op kk su own ow tr xe al fl fA fC fT fP fB fH := by
  unfold wL_law_247
  exact qa_md0 (by decide) (fun _ => qa_md0 (by decide) (fun _ => qa_emit h (fun _ _ _ _ h' => H _ _ _ _ _ _ _ _ _ _ _ _ _ h')))
theorem qa_283 {nC nT nS nD nB nK : Nat} {ls rr rc sp fc : Int32} {L op kk su own ow tr xe al fl fA fC fT fP fB fH : Nat → Int32} {ex : Nat → Int32} {post : Int32 → Prop} {N : Nat} {xs : Nat → Int32} {J112 : Int32 → Int32 → Int32 → Int32 → Int32 → Int32 → Int32 → Int32 → Int32 → Int32 → Int32 → Int32 → Int32 → Int32 → (Nat → Int32) → (Nat → Int32) → (Nat → Int32) → (Nat → Int32) → (Nat → Int32) → (Nat → Int32) → (Nat → Int32) → (Nat → Int32) → (Nat → Int32) → (Nat → Int32) → (Nat → Int32) → (Nat → Int32) → (Nat → Int32) → (Nat → Int32) → (Nat → Int32) → (Nat → Int32) → Prop} {x7 x8 : Int32} {kc ks : Nat} {x12 x13 x17 : Int32} (H : ∀ (nB nK : Nat) (L op kk su own ow tr xe ex al fl : Nat → Int32), tf_Ok nC nT nS nD nB nK L op kk su own ow tr xe ex al fl → ∃ n, wL_law_466 post N xs J112 (nI nC) (nI nT) (nI nS) (nI nB) (nI nK) x7 x8 kc ks (nI nC) (nI nT) (nI nS) (nI nD) (nI nB) (nI nK) ls rr rc sp fc L op kk su own ow tr xe al fl fA fC fT fP fB fH n 0) (h : tf_Ok nC nT nS nD nB nK L op kk su own ow tr xe ex al fl) : wL_law_283 post N xs J112 (nI nC) (nI nT) (nI nS) (nI nB) (nI nK) x7 x8 x12 x13 x17 kc ks (nI nC) (nI nT) (nI nS) (nI nD) (nI nB) (nI nK) ls rr rc sp fc L op kk su own ow tr xe al fl fA fC fT fP fB fH := by
  obtain ⟨⟨hC, hT, hS, hD, hB, hK⟩, hL, hCE, hU, hO, hV, hA, hE, hF⟩ := id h
  unfold wL_law_283
  exact qa_md0 (nI_ne0 hS.1 (by omega)) (fun _ => qa_md0 (qa_n1 (by omega)) (fun _ => qa_define h (fun _ _ _ h' => H _ _ _ _ _ _ _ _ _ _ _ _ _ h')))
theorem qa_350 {nC nT nS nD nB nK : Nat} {ls rr rc sp fc : Int32} {L op kk su own ow tr xe al fl fA fC fT fP fB fH : Nat → Int32} {ex : Nat → Int32} {post : Int32 → Prop} {N : Nat} {xs : Nat → Int32} {J112 : Int32 → Int32 → Int32 → Int32 → Int32 → Int32 → Int32 → Int32 → Int32 → Int32 → Int32 → Int32 → Int32 → Int32 → (Nat → Int32) → (Nat → Int32) → (Nat → Int32) → (Nat → Int32) → (Nat → Int32) → (Nat → Int32) → (Nat → Int32) → (Nat → Int32) → (Nat → Int32) → (Nat → Int32) → (Nat → Int32) → (Nat → Int32) → (Nat → Int32) → (Nat → Int32) → (Nat → Int32) → (Nat → Int32) → Prop} {x7 x8 : Int32} {kc ks : Nat} {x17 z0 : Int32} (H : ∀ (nB nK : Nat) (L op kk su own ow tr xe ex al fl : Nat → Int32), tf_Ok nC nT nS nD nB nK L op kk su own ow tr xe ex al fl → ∃ n, wL_law_466 post N xs J112 (nI nC) (nI nT) (nI nS) (nI nB) (nI nK) x7 x8 kc ks (nI nC) (nI nT) (nI nS) (nI nD) (nI nB) (nI nK) ls rr rc sp fc L op kk su own ow tr xe al fl fA fC fT fP fB fH n 0) (h : tf_Ok nC nT nS nD nB nK L op kk su own ow tr xe ex al fl) : wL_law_350 post N xs J112 (nI nC) (nI nT) (nI nS) (nI nB) (nI nK) x7 x8 x17 z0 kc ks (nI nC) (nI nT) (nI nS) (nI nD) (nI nB) (nI nK) ls rr rc sp fc L op kk su own ow tr xe al fl fA fC fT fP fB fH := by
  obtain ⟨⟨hC, hT, hS, hD, hB, hK⟩, hL, hCE, hU, hO, hV, hA, hE, hF⟩ := id h
  unfold wL_law_350
  exact qa_use h (br_t (by decide) (H _ _ _ _ _ _ _ _ _ _ _ _ _ h)) (fun _ _ _ h' => br_f (nI_pos (by omega)) (nm_r (nI_1 nK) (H _ _ _ _ _ _ _ _ _ _ _ _ _ h')))
theorem qa_324 {nC nT nS nD nB nK : Nat} {ls rr rc sp fc : Int32} {L op kk su own ow tr xe al fl fA fC fT fP fB fH : Nat → Int32} {ex : Nat → Int32} {post : Int32 → Prop} {N : Nat} {xs : Nat → Int32} {J112 : Int32 → Int32 → Int32 → Int32 → Int32 → Int32 → Int32 → Int32 → Int32 → Int32 → Int32 → Int32 → Int32 → Int32 → (Nat → Int32) → (Nat → Int32) → (Nat → Int32) → (Nat → Int32) → (Nat → Int32) → (Nat → Int32) → (Nat → Int32) → (Nat → Int32) → (Nat → Int32) → (Nat → Int32) → (Nat → Int32) → (Nat → Int32) → (Nat → Int32) → (Nat → Int32) → (Nat → Int32) → (Nat → Int32) → Prop} {x7 x8 : Int32} {kc ks : Nat} {x12 x15 x16 x17 : Int32} (H : ∀ (nB nK : Nat) (L op kk su own ow tr xe ex al fl : Nat → Int32), tf_Ok nC nT nS nD nB nK L op kk su own ow tr xe ex al fl → ∃ n, wL_law_466 post N xs J112 (nI nC) (nI nT) (nI nS) (nI nB) (nI nK) x7 x8 kc ks (nI nC) (nI nT) (nI nS) (nI nD) (nI nB) (nI nK) ls rr rc sp fc L op kk su own ow tr xe al fl fA fC fT fP fB fH n 0) (h : tf_Ok nC nT nS nD nB nK L op kk su own ow tr xe ex al fl) : wL_law_324 post N xs J112 (nI nC) (nI nT) (nI nS) (nI nB) (nI nK) x7 x8 x12 x15 x16 x17 kc ks (nI nC) (nI nT) (nI nS) (nI nD) (nI nB) (nI nK) ls rr rc sp fc L op kk su own ow tr xe al fl fA fC fT fP fB fH := by
  obtain ⟨⟨hC, hT, hS, hD, hB, hK⟩, hL, hCE, hU, hO, hV, hA, hE, hF⟩ := id h
  have w : wL_law_344 post N xs J112 (nI nC) (nI nT) (nI nS) (nI nB) (nI nK) x7 x8 x12 x17 kc ks (nI nC) (nI nT) (nI nS) (nI nD) (nI nB) (nI nK) ls rr rc sp fc L op kk su own ow tr xe al fl fA fC fT fP fB fH := by
    unfold wL_law_344
    exact qa_md0 (nI_ne0 hT.1 (by omega)) (fun _ => qa_350 H h)
  exact br_c (fun _ => w) (fun _ => br_c (fun _ => w) (fun hx => qa_md0 (fun z => hx (by rw [z]; exact Int32.le_rfl)) (fun _ => qa_350 H h)))
theorem qa_229 {nC nT nS nD nB nK : Nat} {ls rr rc sp fc : Int32} {L op kk su own ow tr xe al fl fA fC fT fP fB fH : Nat → Int32} {ex : Nat → Int32} {post : Int32 → Prop} {N : Nat} {xs : Nat → Int32} {J112 : Int32 → Int32 → Int32 → Int32 → Int32 → Int32 → Int32 → Int32 → Int32 → Int32 → Int32 → Int32 → Int32 → Int32 → (Nat → Int32) → (Nat → Int32) → (Nat → Int32) → (Nat → Int32) → (Nat → Int32) → (Nat → Int32) → (Nat → Int32) → (Nat → Int32) → (Nat → Int32) → (Nat → Int32) → (Nat → Int32) → (Nat → Int32) → (Nat → Int32) → (Nat → Int32) → (Nat → Int32) → (Nat → Int32) → Prop} {x7 x8 : Int32} {kc ks : Nat} {x10 x11 x12 x13 x15 x16 z0 : Int32} (H : ∀ (nB nK : Nat) (L op kk su own ow tr xe ex al fl : Nat → Int32), tf_Ok nC nT nS nD nB nK L op kk su own ow tr xe ex al fl → ∃ n, wL_law_466 post N xs J112 (nI nC) (nI nT) (nI nS) (nI nB) (nI nK) x7 x8 kc ks (nI nC) (nI nT) (nI nS) (nI nD) (nI nB) (nI nK) ls rr rc sp fc L op kk su own ow tr xe al fl fA fC fT fP fB fH n 0) (h : tf_Ok nC nT nS nD nB nK L op kk su own ow tr xe ex al fl) : wL_law_229 post N xs J112 (nI nC) (nI nT) (nI nS) (nI nB) (nI nK) x7 x8 x10 x11 x12 x13 x15 x16 z0 kc ks (nI nC) (nI nT) (nI nS) (nI nD) (nI nB) (nI nK) ls rr rc sp fc L op kk su own ow tr xe al fl fA fC fT fP fB fH := by
  obtain ⟨⟨hC, hT, hS, hD, hB, hK⟩, hL, hCE, hU, hO, hV, hA, hE, hF⟩ := id h
  unfold wL_law_229
  refine br_c (fun _ => ?_) (fun _ => br_c (fun _ => qa_283 H h) (fun _ => br_c (fun _ => qa_283 H h) (fun _ => br_c (fun _ => qa_324 H h) (fun _ => br_c (fun _ => qa_324 H h) (fun _ => br_c (fun _ => ?_) (fun _ => br_c (fun _ => ?_) (fun _ => ?_)))))))
  · exact qa_begin h (br_t (by decide) (qa_247 H h)) (fun h' => br_f (nI_pos (by omega)) (nm_r (nI_1 nB) (qa_247 H h')))
  · exact qa_md0 (qa_n1 (by omega)) (fun _ => qa_md0 (nI_ne0 hS.1 (by omega)) (fun _ => qa_exclude h (fun _ _ _ _ h' => H _ _ _ _ _ _ _ _ _ _ _ _ _ h')))
  · exact qa_md0 (qa_n1 (by omega)) (fun _ => qa_md0 (nI_ne0 hS.1 (by omega)) (fun _ => qa_md0 (nI_ne0 hS.1 (by omega)) (fun _ => qa_alias h (fun _ _ _ h' => H _ _ _ _ _ _ _ _ _ _ _ _ _ h'))))
  · exact qa_md (by omega) (by omega) (fun j hj => qa_md0 (qa_n1 (by omega)) (fun _ => qa_setSuper h (fun _ _ h' => H _ _ _ _ _ _ _ _ _ _ _ _ _ h')))
theorem qa_200 {nC nT nS nD nB nK : Nat} {ls rr rc sp fc : Int32} {L op kk su own ow tr xe al fl fA fC fT fP fB fH : Nat → Int32} {ex : Nat → Int32} {post : Int32 → Prop} {N : Nat} {xs : Nat → Int32} {J112 : Int32 → Int32 → Int32 → Int32 → Int32 → Int32 → Int32 → Int32 → Int32 → Int32 → Int32 → Int32 → Int32 → Int32 → (Nat → Int32) → (Nat → Int32) → (Nat → Int32) → (Nat → Int32) → (Nat → Int32) → (Nat → Int32) → (Nat → Int32) → (Nat → Int32) → (Nat → Int32) → (Nat → Int32) → (Nat → Int32) → (Nat → Int32) → (Nat → Int32) → (Nat → Int32) → (Nat → Int32) → (Nat → Int32) → Prop} {x7 x8 : Int32} {kc ks : Nat} {x10 x11 x12 x13 x14 z0 : Int32} (H : ∀ (nB nK : Nat) (L op kk su own ow tr xe ex al fl : Nat → Int32), tf_Ok nC nT nS nD nB nK L op kk su own ow tr xe ex al fl → ∃ n, wL_law_466 post N xs J112 (nI nC) (nI nT) (nI nS) (nI nB) (nI nK) x7 x8 kc ks (nI nC) (nI nT) (nI nS) (nI nD) (nI nB) (nI nK) ls rr rc sp fc L op kk su own ow tr xe al fl fA fC fT fP fB fH n 0) (h : tf_Ok nC nT nS nD nB nK L op kk su own ow tr xe ex al fl) : wL_law_200 post N xs J112 (nI nC) (nI nT) (nI nS) (nI nB) (nI nK) x7 x8 x10 x11 x12 x13 x14 z0 kc ks (nI nC) (nI nT) (nI nS) (nI nD) (nI nB) (nI nK) ls rr rc sp fc L op kk su own ow tr xe al fl fA fC fT fP fB fH := by
  obtain ⟨⟨hC, hT, hS, hD, hB, hK⟩, hL, hCE, hU, hO, hV, hA, hE, hF⟩ := id h
  unfold wL_law_200
  exact ⟨nI_ne0 hT.1 (by omega), nm_e (br_c (fun _ => ⟨nI_ne0 hC.1 (by omega), qa_229 H h⟩) (fun _ => qa_229 H h))⟩
theorem qa_cellx {post : Int32 → Prop} {N : Nat} {xs : Nat → Int32} {x : Int32} {j : Nat} (e : x = nI j) (hN : N < 2 ^ 31) (hj : j < 2 ^ 31) (p : ∀ r, post r) : wpL_cell post N xs () x := by
  rw [e]
  exact qa_cell hN hj p
/-! the law's loop over steps -/
theorem qa_112 {nC nT nS nD : Nat} {ls rr rc sp fc : Int32} {fA fC fT fP fB fH : Nat → Int32} {post : Int32 → Prop} {N T : Nat} {xs : Nat → Int32} {kc ks : Nat} (hN : N ≤ 260) (hT : T ≤ 100) (p : post 1) : ∀ d t (nB nK : Nat) (L op kk su own ow tr xe ex al fl : Nat → Int32), t + d = T + 1 → tf_Ok nC nT nS nD nB nK L op kk su own ow tr xe ex al fl → wL_law_112 post N xs (nI nC) (nI nT) (nI nS) (nI T) kc ks (d + 1) (nI nB) (nI nK) (nI t) (nI nC) (nI nT) (nI nS) (nI nD) (nI nB) (nI nK) ls rr rc sp fc L op kk su own ow tr xe al fl fA fC fT fP fB fH := by
  intro d
  induction d with
  | zero =>
    intro t nB nK L op kk su own ow tr xe ex al fl ht h
    exact br_t (nI_lt (by omega) (by omega)) p
  | succ d ih =>
    intro t nB nK L op kk su own ow tr xe ex al fl ht h
    have H : ∀ (nB nK : Nat) (L op kk su own ow tr xe ex al fl : Nat → Int32), tf_Ok nC nT nS nD nB nK L op kk su own ow tr xe ex al fl → ∃ n, wL_law_466 post N xs (wL_law_112 post N xs (nI nC) (nI nT) (nI nS) (nI T) kc ks (d + 1)) (nI nC) (nI nT) (nI nS) (nI nB) (nI nK) (nI T) (nI t) kc ks (nI nC) (nI nT) (nI nS) (nI nD) (nI nB) (nI nK) ls rr rc sp fc L op kk su own ow tr xe al fl fA fC fT fP fB fH n 0 := fun nB nK L op kk su own ow tr xe ex al fl h' => qa_466 h' (nm_r (nI_1 t) (ih (t + 1) nB nK L op kk su own ow tr xe ex al fl (by omega) h'))
    refine br_f (nI_nlt (by omega) (by omega)) (pk_le t 0 (fun _ => H _ _ _ _ _ _ _ _ _ _ _ _ _ h) (fun z => ?_))
    obtain ⟨t, rfl⟩ : ∃ t', t = t' + 1 := ⟨t - 1, by omega⟩
    have e9 : (3 : Int32) + 4 * (nI (t + 1) - 1) = nI (3 + 4 * t) := by
      rw [nI_pred]
      show nI 3 + nI 4 * nI t = _
      rw [pk_mul, nI_add]
    exact nm_r e9 (qa_cellx rfl (by omega) (by omega) (fun _ => qa_md0 (by decide) (fun _ => qa_cellx (nI_1 _) (by omega) (by omega) (fun _ => qa_cellx (nI_add _ 2) (by omega) (by omega) (fun _ => qa_cellx (nI_add _ 3) (by omega) (by omega) (fun _ => qa_md0 (by decide) (fun _ => br_c (fun _ => qa_200 H h) (fun _ => qa_200 H h))))))))
theorem qa_59 {nC nT nS nD : Nat} {ls rr rc sp fc : Int32} {su own ow tr xe ex al fl fA fC fT fP fB fH : Nat → Int32} {post : Int32 → Prop} {N : Nat} {xs : Nat → Int32} {kc ks : Nat} (hN : N ≤ 260) (p : post 1) : ∀ d i (nB : Nat) (L op kk : Nat → Int32), i + d = 3 → tf_Ok nC nT nS nD nB 0 L op kk su own ow tr xe ex al fl → wL_law_59 post N xs (nI nC) (nI nT) (nI nS) 0 kc ks (d + 1) (nI nB) (nI i) (nI nC) (nI nT) (nI nS) (nI nD) (nI nB) (nI 0) ls rr rc sp fc L op kk su own ow tr xe al fl fA fC fT fP fB fH := by
  intro d
  induction d with
  | zero =>
    intro i nB L op kk hi h
    refine br_t (nI_le (a := 3) (by omega) (by omega)) (pk_le (x := Int32.ofNat N) N 3 (fun _ => ⟨2, qa_112 (T := 0) hN (by omega) p 1 0 nB 0 L op kk su own ow tr xe ex al fl (by omega) h⟩) (fun z => ⟨by decide, nm_r (e' := nI ((N - 3) / 4)) ?_ ⟨(N - 3) / 4 + 1 + 1, qa_112 hN (by omega) p ((N - 3) / 4 + 1) 0 nB 0 L op kk su own ow tr xe ex al fl (by omega) h⟩⟩))
    show (nI N - nI 3) / nI 4 = _
    rw [pk_sub (by omega), pk_div (by omega) (by omega) (by omega)]
  | succ d ih =>
    intro i nB L op kk hi h
    have w : ∀ (nB : Nat) (L op kk : Nat → Int32), tf_Ok nC nT nS nD nB 0 L op kk su own ow tr xe ex al fl → wL_law_76 post N xs (wL_law_59 post N xs (nI nC) (nI nT) (nI nS) 0 kc ks (d + 1)) (nI nC) (nI nT) (nI nS) (nI nB) 0 (nI i) kc ks (nI nC) (nI nT) (nI nS) (nI nD) (nI nB) (nI 0) ls rr rc sp fc L op kk su own ow tr xe al fl fA fC fT fP fB fH := by
      intro nB L op kk h
      unfold wL_law_76
      exact qa_emit h (fun _ L' op' kk' h' => nm_r (nI_1 i) (ih (i + 1) nB L' op' kk' (by omega) h'))
    have hB := h.1.2.2.2.2.1
    exact br_f (nI_ge (b := 3) (by omega) (by omega)) (qa_begin h (br_t (by decide) (w nB L op kk h)) (fun h' => br_f (nI_pos (by omega)) (nm_r (nI_1 nB) (w (nB + 1) L op kk h'))))
theorem qa_cp {n g : Nat} (h1 : 1 ≤ n) (h2 : n ≤ g) (hg : g < 2 ^ 31) : nI (tf_cp (nI n) g) = nI n := tf_cp_v (nI_nlt (b := 1) h1 (by omega)) (nI_nlt h2 hg)
theorem qa_clamp {post : Int32 → Prop} {n g : Nat} (h1 : 1 ≤ n) (h2 : n ≤ g) (hg : g < 2 ^ 31) (p : post (nI n)) : wpX_clamp post () (nI n) (nI g) := tx_clamp (by rw [qa_cp h1 h2 hg]; exact p)
theorem qa_init {nC nT nS : Nat} {post : St2 → Prop} (hC : 1 ≤ nC ∧ nC ≤ 8) (hT : 1 ≤ nT ∧ nT ≤ 8) (hS : 1 ≤ nS ∧ nS ≤ 16) (p : post (nI nC, nI nT, nI nS, nI 4, nI 0, nI 0, 0, 0, 0, 0, 0, fun _ => 0, fun _ => 0, fun _ => 0, tf_ini 8, tf_ini 256, fun _ => 0, fun _ => 0, fun _ => 0, tf_ini 256, tf_ini 256, fun _ => 0, fun _ => 0, fun _ => 0, fun _ => 0, fun _ => 0, fun _ => 0)) : wpX_init post 16 1448 (0, 0, 0, 0, 0, 0, 0, 0, 0, 0, 0) (nI nC) (nI nT) (nI nS) 4 := by
  have hX := tx_init (mc := 16) (ms := 1448) (kc := 16) (ks := 1448) (post := post) p
  rw [tf_ini_0] at hX
  unfold wpX_init
  refine ⟨by omega, by omega, by omega, by omega, by omega, by omega, by omega, by omega, by omega, by omega, by omega, by omega, by omega, by omega, by omega, by omega, by omega, by omega, by omega, by omega, by omega, by omega, by omega, by omega, by omega, by omega, by omega, by omega, by omega, by omega, by omega, by omega, ?_⟩
  exact qa_clamp (g := 8) hC.1 hC.2 (by omega) (qa_clamp (g := 8) hT.1 hT.2 (by omega) (qa_clamp (g := 16) hS.1 hS.2 (by omega) (qa_clamp (n := 4) (g := 16) (by omega) (by omega) (by omega) hX)))
theorem i_vc (xs : Nat → Int32) (L : Nat) (hL : L ≤ 260) : wpL_law (fun r => r = 1) L xs := by
  unfold wpL_law
  refine qa_cellx (j := 0) rfl (by omega) (by omega) (fun _ => qa_md (n := 5) (by omega) (by omega) (fun a ha => nm_r (nI_add 1 a) (qa_cellx (j := 1) rfl (by omega) (by omega) (fun _ => qa_md (n := 5) (by omega) (by omega) (fun b hb => nm_r (nI_add 1 b) (qa_cellx (j := 2) rfl (by omega) (by omega) (fun _ => qa_md (n := 6) (by omega) (by omega) (fun c hc => nm_r (nI_add 1 c) ?_))))))))
  refine ⟨16, 1448, by omega, by omega, qa_init ⟨by omega, by omega⟩ ⟨by omega, by omega⟩ ⟨by omega, by omega⟩ ⟨4, ?_⟩⟩
  exact qa_59 (post := fun r => r = 1) (nC := 1 + a) (nT := 1 + b) (nS := 1 + c) (nD := 4) hL rfl 3 0 0 _ _ _ rfl (tf_ok0 (nC := 1 + a) (nT := 1 + b) (nS := 1 + c) ⟨by omega, by omega⟩ ⟨by omega, by omega⟩ ⟨by omega, by omega⟩ ⟨by omega, by omega⟩)
end
