/-! the reference's small questions -/
theorem ty_validSel_t {nC nT nS nD nB nK : Nat} {dp rs st : Int32} {op kk L su own ow tr ex al tp fB fH fA fC fT fP : Nat → Int32} {post : Int32 → Prop} {c : Int32} (hC : nS ≤ 16) (h : tf_in c nS) (p : post 1) : wpY_validSel post (nI nC, nI nT, nI nS, nI nD, nI nB, nI nK, dp, rs, st, op, kk, L, su, own, ow, tr, ex, al, tp, fB, fH, fA, fC, fT, fP) c := tf_r1t (by omega) h p
theorem ty_validSel_f {nC nT nS nD nB nK : Nat} {dp rs st : Int32} {op kk L su own ow tr ex al tp fB fH fA fC fT fP : Nat → Int32} {post : Int32 → Prop} {c : Int32} (hC : nS ≤ 16) (h : ¬ tf_in c nS) (p : post 0) : wpY_validSel post (nI nC, nI nT, nI nS, nI nD, nI nB, nI nK, dp, rs, st, op, kk, L, su, own, ow, tr, ex, al, tp, fB, fH, fA, fC, fT, fP) c := tf_r1f (by omega) h p
theorem ty_validBody_t {nC nT nS nD nB nK : Nat} {dp rs st : Int32} {op kk L su own ow tr ex al tp fB fH fA fC fT fP : Nat → Int32} {post : Int32 → Prop} {c : Int32} (hC : nB ≤ 16) (h : tf_in c nB) (p : post 1) : wpY_validBody post (nI nC, nI nT, nI nS, nI nD, nI nB, nI nK, dp, rs, st, op, kk, L, su, own, ow, tr, ex, al, tp, fB, fH, fA, fC, fT, fP) c := tf_r1t (by omega) h p
theorem ty_validBody_f {nC nT nS nD nB nK : Nat} {dp rs st : Int32} {op kk L su own ow tr ex al tp fB fH fA fC fT fP : Nat → Int32} {post : Int32 → Prop} {c : Int32} (hC : nB ≤ 16) (h : ¬ tf_in c nB) (p : post 0) : wpY_validBody post (nI nC, nI nT, nI nS, nI nD, nI nB, nI nK, dp, rs, st, op, kk, L, su, own, ow, tr, ex, al, tp, fB, fH, fA, fC, fT, fP) c := tf_r1f (by omega) h p
theorem ty_validOwner_t {nC nT nS nD nB nK : Nat} {dp rs st : Int32} {op kk L su own ow tr ex al tp fB fH fA fC fT fP : Nat → Int32} {post : Int32 → Prop} {c : Int32} (hC : nC ≤ 8) (hT : nT ≤ 8) (h : tf_ow c nC nT) (p : post 1) : wpY_validOwner post (nI nC, nI nT, nI nS, nI nD, nI nB, nI nK, dp, rs, st, op, kk, L, su, own, ow, tr, ex, al, tp, fB, fH, fA, fC, fT, fP) c := by
  obtain ⟨j, hj, rfl⟩ := h
  by_cases h1 : j < nC
  · exact br_f (nI_pos (by omega)) (br_t (nI_lt h1 (by omega)) p)
  · have h2 : 8 ≤ j ∧ j < 8 + nT := by omega
    have h3 : ¬ (8 : Int32) + nI nT ≤ nI j := by
      rw [tf_8]
      exact nI_ge h2.2 (by omega)
    exact br_f (nI_pos (by omega)) (br_f (nI_nlt (by omega) (by omega)) (br_f (nI_nlt (b := 8) h2.1 (by omega)) (br_f h3 p)))
theorem ty_validOwner_f {nC nT nS nD nB nK : Nat} {dp rs st : Int32} {op kk L su own ow tr ex al tp fB fH fA fC fT fP : Nat → Int32} {post : Int32 → Prop} {c : Int32} (hC : nC ≤ 8) (hT : nT ≤ 8) (h : ¬ tf_ow c nC nT) (p : post 0) : wpY_validOwner post (nI nC, nI nT, nI nS, nI nD, nI nB, nI nK, dp, rs, st, op, kk, L, su, own, ow, tr, ex, al, tp, fB, fH, fA, fC, fT, fP) c := by
  obtain ⟨h1, h2⟩ := tf_ow_not hC hT h
  have w : wY_validOwner_12 post c (nI nC) (nI nT) (nI nS) (nI nD) (nI nB) (nI nK) dp rs st op kk L su own ow tr ex al tp fB fH fA fC fT fP := by
    rcases h2 with a | ⟨a, b, _⟩
    · exact br_t a p
    · rw [← tf_8] at b
      exact br_f a (br_t b p)
  exact tf_r2f (by omega) h1 w
theorem ty_c123 {nC nT nS nD nB nK : Nat} {dp rs st : Int32} {op kk L su own ow tr ex al tp fB fH fA fC fT fP : Nat → Int32} {post : Int32 → Prop} {J : Int32 → Int32 → Int32 → Int32 → Prop} {x1 : Int32} {k s u c : Nat} {v m : Int32} (hk : k < 16) (hs : s < 16) (hu : u < 8) (e : tr k = nI u) (ha : al (k * 16 + s) = -1 ∨ ∃ r, r < 16 ∧ al (k * 16 + s) = nI r) (hc : c ≤ 40) (hi : tf_ai c v m) (hJ : ∀ (c' : Nat) (v' m' : Int32), c' ≤ c + 1 → tf_ai c' v' m' → tf_av c' v' m' = tf_mg (tf_av c v m) (tf_ac tr al tp k s) → J (nI c') v' m' (nI (k + 1))) : wY_combine_123 post J x1 (nI s) (nI c) v m (nI k) (nI u) (nI nC) (nI nT) (nI nS) (nI nD) (nI nB) (nI nK) dp rs st op kk L su own ow tr ex al tp fB fH fA fC fT fP := by
  unfold wY_combine_123
  rw [tf_ix, nI_clamp (show k * 16 + s < 2 ^ 31 by omega)]
  refine ⟨vp_in_nI (by omega) (by omega), ?_⟩
  rcases ha with a | ⟨r, hr, a⟩
  · exact nm_r a (br_t rfl (nm_r (nI_1 k) (hJ c v m (by omega) hi (by unfold tf_ac; rw [if_pos a, tf_mg_n]))))
  · have ea : tf_ac tr al tp k s = tp (u * 16 + r) := by
      unfold tf_ac
      rw [a, if_neg (tf_m1 (by omega)), e, nI_clamp (show u < 2 ^ 31 by omega), nI_clamp (show r < 2 ^ 31 by omega)]
    rw [ea] at hJ
    refine nm_r a (br_f (tf_m1 (by omega)) ?_)
    rw [tf_ix u r, nI_clamp (show u * 16 + r < 2 ^ 31 by omega)]
    refine ⟨vp_in_nI (by omega) (by omega), nm_e ?_⟩
    by_cases x : tp (u * 16 + r) = -1
    · exact br_t x (nm_r (nI_1 k) (hJ c v m (by omega) hi (by rw [x, tf_mg_n])))
    · refine br_f x (pk_eq c 0 (fun hc => ?_) (fun hc => ?_))
      · refine nm_r (nI_1 c) (nm_r (nI_1 k) (hJ (c + 1) _ m (by omega) ⟨fun z => absurd z (by omega), fun _ => x, hi.2.2⟩ ?_))
        have hm := hi.1 hc
        subst hc
        rw [hm]
        exact tf_av_0 x
      · by_cases y : tp (u * 16 + r) = v
        · refine br_t y (nm_r (nI_1 c) (nm_r (nI_1 k) (hJ (c + 1) v m (by omega) ⟨fun z => absurd z (by omega), fun _ => hi.2.1 hc, hi.2.2⟩ ?_)))
          rw [y]
          exact tf_av_s hc (hi.2.1 hc)
        · exact br_f y (nm_r (nI_1 c) (nm_r (nI_1 k) (hJ (c + 1) v 1 (by omega) ⟨fun z => absurd z (by omega), fun _ => hi.2.1 hc, Or.inr rfl⟩ (tf_av_d hc (hi.2.1 hc) x y))))
theorem ty_combine {nC nT nS nD nB nK : Nat} {dp rs st : Int32} {op kk L su own ow tr ex al tp fB fH fA fC fT fP : Nat → Int32} {post : Int32 → Prop} (hS : nS ≤ 16) (hT : nT ≤ 8) (hK : nK ≤ 16) (hV : tf_CV nT nS nK ow tr al) {o s : Nat} (ho : o < 16) (hs : s < nS) (p : post (tf_pf own ow tr ex al tp nK o s)) : wpY_combine post (nI nC, nI nT, nI nS, nI nD, nI nB, nI nK, dp, rs, st, op, kk, L, su, own, ow, tr, ex, al, tp, fB, fH, fA, fC, fT, fP) (nI o) (nI s) := by
  have main : (post (tf_cs ow tr ex al tp o s nK)) → ∀ d k c v m, k + d = nK → c ≤ 2 * k → tf_ai c v m → tf_av c v m = tf_cs ow tr ex al tp o s k → wY_combine_31 post (nI o) (nI s) (nI nC) (nI nT) (nI nS) (nI nD) (nI nB) (nI nK) dp rs st op kk L su own ow tr ex al tp fB fH fA fC fT fP (d + 1) (nI c) v m (nI k) := by
    intro q d
    induction d with
    | zero =>
      intro k c v m hk hc hi he
      have e : k = nK := by omega
      rw [e] at he
      rw [← he] at q
      rw [e]
      refine br_t Int32.le_rfl (pk_eq c 0 (fun h => ?_) (fun h => ?_))
      · unfold tf_av at q
        rw [if_pos h] at q
        exact q
      · unfold tf_av at q
        rw [if_neg h] at q
        by_cases hm : m = 0
        · rw [if_pos hm] at q
          exact br_t hm q
        · rw [if_neg hm] at q
          exact br_f hm q
    | succ d ih =>
      intro k c v m hk hc hi he
      obtain ⟨o', u, h1, h2, h3, h4, h5, h6⟩ := hV k (by omega)
      have ha : al (k * 16 + s) = -1 ∨ ∃ r, r < 16 ∧ al (k * 16 + s) = nI r := by
        rcases h6 s hs with a | ⟨r, hr, a⟩
        · exact Or.inl a
        · exact Or.inr ⟨r, by omega, a⟩
      refine br_f (nI_ge (by omega) (by omega)) ⟨vp_in_nI (by omega) (by omega), ?_⟩
      rw [nI_clamp (show k < 2 ^ 31 by omega)]
      by_cases cc : ow k = nI o
      · have IH : ∀ (c1 : Nat) (v1 m1 : Int32), c1 ≤ c + 1 → tf_ai c1 v1 m1 → tf_av c1 v1 m1 = tf_mg (tf_av c v m) (tf_dc tr ex tp k s) → ∀ (c' : Nat) (v' m' : Int32), c' ≤ c1 + 1 → tf_ai c' v' m' → tf_av c' v' m' = tf_mg (tf_av c1 v1 m1) (tf_ac tr al tp k s) → wY_combine_31 post (nI o) (nI s) (nI nC) (nI nT) (nI nS) (nI nD) (nI nB) (nI nK) dp rs st op kk L su own ow tr ex al tp fB fH fA fC fT fP (d + 1) (nI c') v' m' (nI (k + 1)) := by
          intro c1 v1 m1 hc1 hi1 e1 c' v' m' hc' hi' e'
          refine ih (k + 1) c' v' m' (by omega) (by omega) hi' ?_
          simp only [tf_cs]
          rw [if_pos cc, ← he, ← e1, e']
        have C : ∀ (c1 : Nat) (v1 m1 : Int32), c1 ≤ c + 1 → tf_ai c1 v1 m1 → tf_av c1 v1 m1 = tf_mg (tf_av c v m) (tf_dc tr ex tp k s) → wY_combine_123 post (wY_combine_31 post (nI o) (nI s) (nI nC) (nI nT) (nI nS) (nI nD) (nI nB) (nI nK) dp rs st op kk L su own ow tr ex al tp fB fH fA fC fT fP (d + 1)) (nI o) (nI s) (nI c1) v1 m1 (nI k) (nI u) (nI nC) (nI nT) (nI nS) (nI nD) (nI nB) (nI nK) dp rs st op kk L su own ow tr ex al tp fB fH fA fC fT fP := fun c1 v1 m1 a b e => ty_c123 (by omega) (by omega) (by omega) h2 ha (by omega) b (IH c1 v1 m1 a b e)
        refine br_t cc ⟨vp_in_nI (by omega) (by omega), nm_r h2 ?_⟩
        rw [tf_ix k s, nI_clamp (show k * 16 + s < 2 ^ 31 by omega), tf_ix u s, nI_clamp (show u * 16 + s < 2 ^ 31 by omega)]
        refine ⟨vp_in_nI (by omega) (by omega), ?_⟩
        by_cases x0 : ex (k * 16 + s) = 0
        · have ed : tf_dc tr ex tp k s = tp (u * 16 + s) := by
            unfold tf_dc
            rw [if_pos x0, h2, nI_clamp (show u < 2 ^ 31 by omega)]
          rw [ed] at C
          refine br_t x0 ⟨vp_in_nI (by omega) (by omega), nm_e ?_⟩
          by_cases x : tp (u * 16 + s) = -1
          · exact br_t x (C c v m (by omega) hi (by rw [x, tf_mg_n]))
          · refine br_f x (pk_eq c 0 (fun hc => ?_) (fun hc => ?_))
            · refine nm_r (nI_1 c) (C (c + 1) _ m (by omega) ⟨fun z => absurd z (by omega), fun _ => x, hi.2.2⟩ ?_)
              have hm := hi.1 hc
              rw [hc, hm]
              exact tf_av_0 x
            · by_cases y : tp (u * 16 + s) = v
              · refine br_t y (nm_r (nI_1 c) (C (c + 1) v m (by omega) ⟨fun z => absurd z (by omega), fun _ => hi.2.1 hc, hi.2.2⟩ ?_))
                rw [y]
                exact tf_av_s hc (hi.2.1 hc)
              · exact br_f y (nm_r (nI_1 c) (C (c + 1) v 1 (by omega) ⟨fun z => absurd z (by omega), fun _ => hi.2.1 hc, Or.inr rfl⟩ (tf_av_d hc (hi.2.1 hc) x y)))
        · have ed : tf_dc tr ex tp k s = -1 := by
            unfold tf_dc
            rw [if_neg x0]
          exact br_f x0 (C c v m (by omega) hi (by rw [ed, tf_mg_n]))
      · refine br_f cc (nm_r (nI_1 k) (ih (k + 1) c v m (by omega) (by omega) hi ?_))
        simp only [tf_cs]
        rw [if_neg cc, he]
  unfold wpY_combine
  dsimp only
  rw [tf_ix, nI_clamp (show o * 16 + s < 2 ^ 31 by omega)]
  refine ⟨vp_in_nI (by omega) (by omega), ?_⟩
  unfold tf_pf at p
  by_cases c : own (o * 16 + s) = -1
  · rw [if_pos c] at p
    exact nm_r c (br_t rfl ⟨nK + 1, main p nK 0 0 (-1) 0 (by omega) (by omega) ⟨fun _ => rfl, fun z => absurd rfl z, Or.inl rfl⟩ rfl⟩)
  · rw [if_neg c] at p
    exact nm_e (br_f c p)
theorem ty_ct {nC nT nS nD nB nK : Nat} {dp rs st : Int32} {op kk L su own ow tr ex al tp fB fH fA fC fT fP : Nat → Int32} {post : SY → Prop} (hS : nS ≤ 16) (hT : nT ≤ 8) (hK : nK ≤ 16) (hV : tf_CV nT nS nK ow tr al) (p : ∀ g : Nat → Int32, (∀ t s, t < nT → s < nS → g (t * 16 + s) = tf_pv own ow tr ex al nK (t * 16 + s)) → post (nI nC, nI nT, nI nS, nI nD, nI nB, nI nK, dp, rs, st, op, kk, L, su, own, ow, tr, ex, al, g, fB, fH, fA, fC, fT, fP)) : wpY_computeTraits post (nI nC, nI nT, nI nS, nI nD, nI nB, nI nK, dp, rs, st, op, kk, L, su, own, ow, tr, ex, al, tp, fB, fH, fA, fC, fT, fP) := by
  have inner : ∀ (J : Int32 → (Nat → Int32) → (Nat → Int32) → (Nat → Int32) → (Nat → Int32) → (Nat → Int32) → (Nat → Int32) → (Nat → Int32) → (Nat → Int32) → (Nat → Int32) → (Nat → Int32) → (Nat → Int32) → (Nat → Int32) → (Nat → Int32) → (Nat → Int32) → (Nat → Int32) → (Nat → Int32) → Prop) (t : Nat), t < nT → (∀ g : Nat → Int32, (∀ t' s, t' < t + 1 → s < nS → g (t' * 16 + s) = tf_pv own ow tr ex al nK (t' * 16 + s)) → J (nI (t + 1)) op kk L su own ow tr ex al g fB fH fA fC fT fP) → ∀ d j (g : Nat → Int32), j + d = nS → (∀ t' s, t' < t → s < nS → g (t' * 16 + s) = tf_pv own ow tr ex al nK (t' * 16 + s)) → (∀ s, s < j → g (t * 16 + s) = tf_pv own ow tr ex al nK (t * 16 + s)) → wY_computeTraits_12 post J (nI t) (nI nC) (nI nT) (nI nS) (nI nD) (nI nB) (nI nK) dp rs st (d + 1) (nI j) op kk L su own ow tr ex al g fB fH fA fC fT fP := by
    intro J t ht hJ d
    induction d with
    | zero =>
      intro j g hj h1 h2
      have e : j = nS := by omega
      rw [e] at h2
      rw [e]
      refine br_t Int32.le_rfl (nm_r (nI_1 t) (hJ g (fun t' s ht' hs => ?_)))
      by_cases c : t' = t
      · rw [c]
        exact h2 s hs
      · exact h1 t' s (by omega) hs
    | succ d ih =>
      intro j g hj h1 h2
      have hv : tf_pf own ow tr ex al g nK (8 + t) j = tf_pv own ow tr ex al nK (t * 16 + j) := tf_pf_tr hT hS hV (by omega) (by omega) (fun u r hu hut hr => h1 u r hut hr)
      refine br_f (nI_ge (by omega) (by omega)) ?_
      rw [tf_8 t, tf_ix t j, nI_clamp (show t * 16 + j < 2 ^ 31 by omega)]
      refine ty_combine hS hT hK hV (by omega) (by omega) ⟨vp_in_nI (by omega) (by omega), nm_r (by rw [hv]) (nm_r (nI_1 j) (ih (j + 1) _ (by omega) (fun t' s ht' hs => ?_) (fun s hs => ?_)))⟩
      · rw [pk_un (by omega)]
        exact h1 t' s ht' hs
      · by_cases c : s = j
        · rw [c, pk_us]
        · rw [pk_un (by omega)]
          exact h2 s (by omega)
  have outer : ∀ d t (g : Nat → Int32), t + d = nT → (∀ t' s, t' < t → s < nS → g (t' * 16 + s) = tf_pv own ow tr ex al nK (t' * 16 + s)) → wY_computeTraits_2 post (nI nC) (nI nT) (nI nS) (nI nD) (nI nB) (nI nK) dp rs st (d + 1) (nI t) op kk L su own ow tr ex al g fB fH fA fC fT fP := by
    intro d
    induction d with
    | zero =>
      intro t g ht h1
      have e : t = nT := by omega
      rw [e] at h1
      rw [e]
      exact br_t Int32.le_rfl (p g h1)
    | succ d ih =>
      intro t g ht h1
      exact br_f (nI_ge (by omega) (by omega)) ⟨nS + 1, inner _ t (by omega) (fun g' h' => ih (t + 1) g' (by omega) h') nS 0 g (by omega) h1 (fun s hs => absurd hs (by omega))⟩
  exact ⟨nT + 1, outer nT 0 tp (by omega) (fun t' s ht' => absurd ht' (by omega))⟩
