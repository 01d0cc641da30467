theorem tf_8 (n : Nat) : (8 : Int32) + nI n = nI (8 + n) := nI_add 8 n
theorem tf_16 (n : Nat) : (16 : Int32) + nI n = nI (16 + n) := nI_add 16 n
theorem tx_isClass_t {nC nT nS nD nB nK : Nat} {ls rr rc sp fc : Int32} {L op kk su own ow tr xe al fl fA fC fT fP fB fH : Nat → Int32} {post : Int32 → Prop} {c : Int32} (hC : nC ≤ 8) (h : tf_in c nC) (p : post 1) : wpX_isClass post (nI nC, nI nT, nI nS, nI nD, nI nB, nI nK, ls, rr, rc, sp, fc, L, op, kk, su, own, ow, tr, xe, al, fl, fA, fC, fT, fP, fB, fH) c := tf_r1t (by omega) h p
theorem tx_isClass_f {nC nT nS nD nB nK : Nat} {ls rr rc sp fc : Int32} {L op kk su own ow tr xe al fl fA fC fT fP fB fH : Nat → Int32} {post : Int32 → Prop} {c : Int32} (hC : nC ≤ 8) (h : ¬ tf_in c nC) (p : post 0) : wpX_isClass post (nI nC, nI nT, nI nS, nI nD, nI nB, nI nK, ls, rr, rc, sp, fc, L, op, kk, su, own, ow, tr, xe, al, fl, fA, fC, fT, fP, fB, fH) c := tf_r1f (by omega) h p
theorem tx_isSelector_t {nC nT nS nD nB nK : Nat} {ls rr rc sp fc : Int32} {L op kk su own ow tr xe al fl fA fC fT fP fB fH : Nat → Int32} {post : Int32 → Prop} {c : Int32} (hC : nS ≤ 16) (h : tf_in c nS) (p : post 1) : wpX_isSelector post (nI nC, nI nT, nI nS, nI nD, nI nB, nI nK, ls, rr, rc, sp, fc, L, op, kk, su, own, ow, tr, xe, al, fl, fA, fC, fT, fP, fB, fH) c := tf_r1t (by omega) h p
theorem tx_isSelector_f {nC nT nS nD nB nK : Nat} {ls rr rc sp fc : Int32} {L op kk su own ow tr xe al fl fA fC fT fP fB fH : Nat → Int32} {post : Int32 → Prop} {c : Int32} (hC : nS ≤ 16) (h : ¬ tf_in c nS) (p : post 0) : wpX_isSelector post (nI nC, nI nT, nI nS, nI nD, nI nB, nI nK, ls, rr, rc, sp, fc, L, op, kk, su, own, ow, tr, xe, al, fl, fA, fC, fT, fP, fB, fH) c := tf_r1f (by omega) h p
theorem tx_isBody_t {nC nT nS nD nB nK : Nat} {ls rr rc sp fc : Int32} {L op kk su own ow tr xe al fl fA fC fT fP fB fH : Nat → Int32} {post : Int32 → Prop} {c : Int32} (hC : nB ≤ 16) (h : tf_in c nB) (p : post 1) : wpX_isBody post (nI nC, nI nT, nI nS, nI nD, nI nB, nI nK, ls, rr, rc, sp, fc, L, op, kk, su, own, ow, tr, xe, al, fl, fA, fC, fT, fP, fB, fH) c := tf_r1t (by omega) h p
theorem tx_isBody_f {nC nT nS nD nB nK : Nat} {ls rr rc sp fc : Int32} {L op kk su own ow tr xe al fl fA fC fT fP fB fH : Nat → Int32} {post : Int32 → Prop} {c : Int32} (hC : nB ≤ 16) (h : ¬ tf_in c nB) (p : post 0) : wpX_isBody post (nI nC, nI nT, nI nS, nI nD, nI nB, nI nK, ls, rr, rc, sp, fc, L, op, kk, su, own, ow, tr, xe, al, fl, fA, fC, fT, fP, fB, fH) c := tf_r1f (by omega) h p
theorem tx_isComponent_t {nC nT nS nD nB nK : Nat} {ls rr rc sp fc : Int32} {L op kk su own ow tr xe al fl fA fC fT fP fB fH : Nat → Int32} {post : Int32 → Prop} {c : Int32} (hC : nK ≤ 16) (h : tf_in c nK) (p : post 1) : wpX_isComponent post (nI nC, nI nT, nI nS, nI nD, nI nB, nI nK, ls, rr, rc, sp, fc, L, op, kk, su, own, ow, tr, xe, al, fl, fA, fC, fT, fP, fB, fH) c := tf_r1t (by omega) h p
theorem tx_isComponent_f {nC nT nS nD nB nK : Nat} {ls rr rc sp fc : Int32} {L op kk su own ow tr xe al fl fA fC fT fP fB fH : Nat → Int32} {post : Int32 → Prop} {c : Int32} (hC : nK ≤ 16) (h : ¬ tf_in c nK) (p : post 0) : wpX_isComponent post (nI nC, nI nT, nI nS, nI nD, nI nB, nI nK, ls, rr, rc, sp, fc, L, op, kk, su, own, ow, tr, xe, al, fl, fA, fC, fT, fP, fB, fH) c := tf_r1f (by omega) h p
theorem tx_isOwner_t {nC nT nS nD nB nK : Nat} {ls rr rc sp fc : Int32} {L op kk su own ow tr xe al fl fA fC fT fP fB fH : Nat → Int32} {post : Int32 → Prop} {c : Int32} (hC : nC ≤ 8) (hT : nT ≤ 8) (h : tf_ow c nC nT) (p : post 1) : wpX_isOwner post (nI nC, nI nT, nI nS, nI nD, nI nB, nI nK, ls, rr, rc, sp, fc, L, op, kk, su, own, ow, tr, xe, al, fl, fA, fC, fT, fP, fB, fH) c := by
  obtain ⟨j, hj, rfl⟩ := h
  unfold wpX_isOwner
  by_cases h1 : j < nC
  · exact tx_isClass_t hC ⟨j, h1, rfl⟩ (br_f (by decide) p)
  · have h2 : 8 ≤ j ∧ j < 8 + nT := by omega
    refine tx_isClass_f hC (tf_ow_hi hC h2.1 (by omega)) (br_t rfl (br_f (nI_nlt (b := 8) h2.1 (by omega)) (br_f ?_ p)))
    rw [tf_8]
    exact nI_ge h2.2 (by omega)
theorem tx_isOwner_f {nC nT nS nD nB nK : Nat} {ls rr rc sp fc : Int32} {L op kk su own ow tr xe al fl fA fC fT fP fB fH : Nat → Int32} {post : Int32 → Prop} {c : Int32} (hC : nC ≤ 8) (hT : nT ≤ 8) (h : ¬ tf_ow c nC nT) (p : post 0) : wpX_isOwner post (nI nC, nI nT, nI nS, nI nD, nI nB, nI nK, ls, rr, rc, sp, fc, L, op, kk, su, own, ow, tr, xe, al, fl, fA, fC, fT, fP, fB, fH) c := by
  obtain ⟨h1, h2⟩ := tf_ow_not hC hT h
  unfold wpX_isOwner
  refine tx_isClass_f hC h1 (br_t rfl ?_)
  rcases h2 with a | ⟨a, b, _⟩
  · exact br_t a p
  · rw [← tf_8] at b
    exact br_f a (br_t b p)
theorem tx_merge {post : Int32 → Prop} {a b : Int32} (p : post (tf_mg a b)) : wpX_merge post () a b := by
  unfold tf_mg at p
  by_cases c : b = -1
  · rw [if_pos c] at p
    exact br_t c p
  · rw [if_neg c] at p
    by_cases c2 : b = a
    · rw [if_pos c2] at p
      exact br_f c (br_t c2 p)
    · rw [if_neg c2] at p
      by_cases c3 : a = -1
      · rw [if_pos c3] at p
        exact br_f c (br_f c2 (br_t c3 p))
      · rw [if_neg c3] at p
        exact br_f c (br_f c2 (br_f c3 p))
theorem tf_tix (u s : Nat) : ((8 : Int32) + nI u) * 16 + nI s = nI (128 + (u * 16 + s)) := by
  rw [tf_8, tf_ix]
  exact congrArg nI (by omega)
theorem tx_direct {nC nT nS nD nB nK : Nat} {ls rr rc sp fc : Int32} {L op kk su own ow tr xe al fl fA fC fT fP fB fH : Nat → Int32} {ex : Nat → Int32} {post : Int32 → Prop} (hS : nS ≤ 16) (hE : tf_EX nS xe ex) {k s u : Nat} (hk : k < 16) (hs : s < 16) (hu : u < 8) (e : tr k = nI u) (p : post (tf_dc tr ex (fun i => fl (128 + i)) k s)) : wpX_directContribution post (nI nC, nI nT, nI nS, nI nD, nI nB, nI nK, ls, rr, rc, sp, fc, L, op, kk, su, own, ow, tr, xe, al, fl, fA, fC, fT, fP, fB, fH) (nI k) (nI s) := by
  unfold wpX_directContribution
  dsimp only
  rw [nI_clamp (show k < 2 ^ 31 by omega), e, tf_tix, nI_clamp (show 128 + (u * 16 + s) < 2 ^ 31 by omega)]
  unfold tf_dc at p
  rw [e, nI_clamp (show u < 2 ^ 31 by omega)] at p
  refine ⟨vp_in_nI hk (by omega), ?_⟩
  have hb := tf_EX_bit hS hE hk hs
  by_cases c : ex (k * 16 + s) = 0
  · rw [if_pos c] at p
    exact br_t (hb.mpr c) ⟨vp_in_nI hk (by omega), vp_in_nI (by omega) (by omega), p⟩
  · rw [if_neg c] at p
    exact br_f (fun z => c (hb.mp z)) p
theorem tx_aliasC {nC nT nS nD nB nK : Nat} {ls rr rc sp fc : Int32} {L op kk su own ow tr xe al fl fA fC fT fP fB fH : Nat → Int32} {post : Int32 → Prop} {k s u : Nat} (hk : k < 16) (hs : s < 16) (hu : u < 8) (e : tr k = nI u) (ha : al (k * 16 + s) = -1 ∨ ∃ r, r < 16 ∧ al (k * 16 + s) = nI r) (p : post (tf_ac tr al (fun i => fl (128 + i)) k s)) : wpX_aliasContribution post (nI nC, nI nT, nI nS, nI nD, nI nB, nI nK, ls, rr, rc, sp, fc, L, op, kk, su, own, ow, tr, xe, al, fl, fA, fC, fT, fP, fB, fH) (nI k) (nI s) := by
  unfold wpX_aliasContribution
  dsimp only
  rw [tf_ix, nI_clamp (show k * 16 + s < 2 ^ 31 by omega), nI_clamp (show k < 2 ^ 31 by omega)]
  unfold tf_ac at p
  refine ⟨vp_in_nI (by omega) (by omega), ?_⟩
  rcases ha with a | ⟨r, hr, a⟩
  · rw [if_pos a] at p
    exact nm_r a (br_t rfl p)
  · rw [a, if_neg (tf_m1 (by omega)), e, nI_clamp (show u < 2 ^ 31 by omega), nI_clamp (show r < 2 ^ 31 by omega)] at p
    refine nm_r a (br_f (tf_m1 (by omega)) ⟨vp_in_nI hk (by omega), ?_⟩)
    rw [e, tf_tix, nI_clamp (show 128 + (u * 16 + r) < 2 ^ 31 by omega)]
    exact ⟨vp_in_nI (by omega) (by omega), p⟩
theorem tx_sum {nC nT nS nD nB nK : Nat} {ls rr rc sp fc : Int32} {L op kk su own ow tr xe al fl fA fC fT fP fB fH : Nat → Int32} {ex : Nat → Int32} {post : Int32 → Prop} (hS : nS ≤ 16) (hT : nT ≤ 8) (hK : nK ≤ 16) (hE : tf_EX nS xe ex) (hV : tf_CV nT nS nK ow tr al) {o s : Nat} (ho : o < 16) (hs : s < nS) (p : post (tf_cs ow tr ex al (fun i => fl (128 + i)) o s nK)) : wpX_sumOfComponents post (nI nC, nI nT, nI nS, nI nD, nI nB, nI nK, ls, rr, rc, sp, fc, L, op, kk, su, own, ow, tr, xe, al, fl, fA, fC, fT, fP, fB, fH) (nI o) (nI s) := by
  have main : ∀ d k, k + d = nK → wX_sumOfComponents_5 post (nI o) (nI s) (nI nC) (nI nT) (nI nS) (nI nD) (nI nB) (nI nK) ls rr rc sp fc L op kk su own ow tr xe al fl fA fC fT fP fB fH (d + 1) (tf_cs ow tr ex al (fun i => fl (128 + i)) o s k) (nI k) := by
    intro d
    induction d with
    | zero =>
      intro k hk
      have e : k = nK := by omega
      rw [e]
      exact br_t Int32.le_rfl p
    | succ d ih =>
      intro k hk
      have t := ih (k + 1) (by omega)
      obtain ⟨o', u, h1, h2, h3, h4, h5, h6⟩ := hV k (by omega)
      have ha : al (k * 16 + s) = -1 ∨ ∃ r, r < 16 ∧ al (k * 16 + s) = nI r := by
        rcases h6 s hs with a | ⟨r, hr, a⟩
        · exact Or.inl a
        · exact Or.inr ⟨r, by omega, a⟩
      refine br_f (nI_ge (by omega) (by omega)) ⟨vp_in_nI (by omega) (by omega), ?_⟩
      rw [nI_clamp (show k < 2 ^ 31 by omega)]
      simp only [tf_cs] at t
      by_cases c : ow k = nI o
      · rw [if_pos c] at t
        exact br_t c (tx_direct hS hE (by omega) (by omega) (by omega) h2 (tx_merge (tx_aliasC (by omega) (by omega) (by omega) h2 ha (tx_merge (nm_r (nI_1 k) t)))))
      · rw [if_neg c] at t
        exact br_f c (nm_r (nI_1 k) t)
  exact ⟨nK + 1, main nK 0 (by omega)⟩
theorem tx_flattenOwner {nC nT nS nD nB nK : Nat} {ls rr rc sp fc : Int32} {L op kk su own ow tr xe al fl fA fC fT fP fB fH : Nat → Int32} {ex : Nat → Int32} {post : St2 → Prop} (hS : nS ≤ 16) (hT : nT ≤ 8) (hK : nK ≤ 16) (hE : tf_EX nS xe ex) (hV : tf_CV nT nS nK ow tr al) {o : Nat} (ho : o < 16) (h : ∀ u r, u < nT → (8 ≤ o → u + 8 < o) → r < nS → fl (128 + (u * 16 + r)) = tf_pv own ow tr ex al nK (u * 16 + r)) (p : ∀ g : Nat → Int32, (∀ s, s < nS → g (o * 16 + s) = tf_PR own ow tr ex al nK o s) → (∀ i, i / 16 ≠ o → g i = fl i) → post (nI nC, nI nT, nI nS, nI nD, nI nB, nI nK, ls, rr, rc, sp, fc, L, op, kk, su, own, ow, tr, xe, al, g, fA, fC, fT, fP, fB, fH)) : wpX_flattenOwner post (nI nC, nI nT, nI nS, nI nD, nI nB, nI nK, ls, rr, rc, sp, fc, L, op, kk, su, own, ow, tr, xe, al, fl, fA, fC, fT, fP, fB, fH) (nI o) := by
  have main : ∀ d j (g : Nat → Int32), j + d = nS → (∀ s, s < j → g (o * 16 + s) = tf_PR own ow tr ex al nK o s) → (∀ i, i / 16 ≠ o → g i = fl i) → wX_flattenOwner_2 post (nI o) (nI nC) (nI nT) (nI nS) (nI nD) (nI nB) (nI nK) ls rr rc sp fc (d + 1) (nI j) L op kk su own ow tr xe al g fA fC fT fP fB fH := by
    intro d
    induction d with
    | zero =>
      intro j g hj h1 h2
      have e : j = nS := by omega
      rw [e] at h1
      rw [e]
      exact br_t Int32.le_rfl (p g h1 h2)
    | succ d ih =>
      intro j g hj h1 h2
      have hd : tf_pf own ow tr ex al (fun i => g (128 + i)) nK o j = tf_PR own ow tr ex al nK o j := by
        refine tf_pf_congr hT hS hV ho (by omega) (fun u r hu h8 hr => ?_)
        show g (128 + (u * 16 + r)) = _
        rw [h2 _ (by omega), h u r hu h8 hr]
      have st : ∀ x, x = tf_PR own ow tr ex al nK o j → wX_flattenOwner_2 post (nI o) (nI nC) (nI nT) (nI nS) (nI nD) (nI nB) (nI nK) ls rr rc sp fc (d + 1) (nI (j + 1)) L op kk su own ow tr xe al (upd g (o * 16 + j) x) fA fC fT fP fB fH := by
        intro x hx
        refine ih (j + 1) _ (by omega) (fun s hs => ?_) (fun i hi => ?_)
        · by_cases c : s = j
          · rw [c, pk_us, hx]
          · rw [pk_un (by omega)]
            exact h1 s (by omega)
        · rw [pk_un (by omega)]
          exact h2 i hi
      refine br_f (nI_ge (by omega) (by omega)) (nm_r (tf_ix o j) ⟨vp_in_nI (by omega) (by omega), ?_⟩)
      rw [nI_clamp (show o * 16 + j < 2 ^ 31 by omega)]
      unfold tf_pf at hd
      by_cases c : own (o * 16 + j) = -1
      · rw [if_pos c] at hd
        exact nm_r c (br_t rfl (tx_sum hS hT hK hE hV ho (by omega) ⟨vp_in_nI (by omega) (by omega), nm_e (nm_r (nI_1 j) (st _ hd))⟩))
      · rw [if_neg c] at hd
        exact nm_e (br_f c ⟨vp_in_nI (by omega) (by omega), nm_e (nm_r (nI_1 j) (st _ hd))⟩)
  exact ⟨nS + 1, main nS 0 fl (by omega) (fun s hs => absurd hs (by omega)) (fun i _ => rfl)⟩
theorem tx_flattenAll {nC nT nS nD nB nK : Nat} {ls rr rc sp fc : Int32} {L op kk su own ow tr xe al fl fA fC fT fP fB fH : Nat → Int32} {ex : Nat → Int32} {post : St2 → Prop} (hC : nC ≤ 8) (hS : nS ≤ 16) (hT : nT ≤ 8) (hK : nK ≤ 16) (hE : tf_EX nS xe ex) (hV : tf_CV nT nS nK ow tr al) (p : ∀ g : Nat → Int32, tf_FL nC nT nS nK own ow tr ex al g → post (nI nC, nI nT, nI nS, nI nD, nI nB, nI nK, ls, rr, rc, sp, fc, L, op, kk, su, own, ow, tr, xe, al, g, fA, fC, fT, fP, fB, fH)) : wpX_flattenAll post (nI nC, nI nT, nI nS, nI nD, nI nB, nI nK, ls, rr, rc, sp, fc, L, op, kk, su, own, ow, tr, xe, al, fl, fA, fC, fT, fP, fB, fH) := by
  have cl : ∀ d c (g : Nat → Int32), c + d = nC → (∀ t s, t < nT → s < nS → g (128 + (t * 16 + s)) = tf_pv own ow tr ex al nK (t * 16 + s)) → (∀ c' s, c' < c → s < nS → g (c' * 16 + s) = tf_PR own ow tr ex al nK c' s) → wX_flattenAll_26 post (d + 1) (nI c) (nI nC) (nI nT) (nI nS) (nI nD) (nI nB) (nI nK) ls rr rc sp fc L op kk su own ow tr xe al g fA fC fT fP fB fH := by
    intro d
    induction d with
    | zero =>
      intro c g hc h1 h2
      have e : c = nC := by omega
      rw [e] at h2
      rw [e]
      refine br_t Int32.le_rfl (p g (fun o s ho hs => ?_))
      rcases ho with ho | ⟨h8, ho⟩
      · exact h2 o s ho hs
      · obtain ⟨t, rfl⟩ : ∃ t, o = 8 + t := ⟨o - 8, by omega⟩
        rw [tf_PR_tr hT hS hV (by omega) hs, show (8 + t) * 16 + s = 128 + (t * 16 + s) by omega]
        exact h1 t s (by omega) hs
    | succ d ih =>
      intro c g hc h1 h2
      refine br_f (nI_ge (by omega) (by omega)) (tx_flattenOwner hS hT hK hE hV (by omega) (fun u r hu _ hr => h1 u r hu hr) (fun g' h3 h4 => nm_r (nI_1 c) (ih (c + 1) g' (by omega) (fun t s ht hs => ?_) (fun c' s hc' hs => ?_))))
      · rw [h4 _ (by omega)]
        exact h1 t s ht hs
      · by_cases e : c' = c
        · rw [e]
          exact h3 s hs
        · rw [h4 _ (by omega)]
          exact h2 c' s (by omega) hs
  have tl : ∀ d t (g : Nat → Int32), t + d = nT → (∀ t' s, t' < t → s < nS → g (128 + (t' * 16 + s)) = tf_pv own ow tr ex al nK (t' * 16 + s)) → wX_flattenAll_2 post (d + 1) (nI t) (nI nC) (nI nT) (nI nS) (nI nD) (nI nB) (nI nK) ls rr rc sp fc L op kk su own ow tr xe al g fA fC fT fP fB fH := by
    intro d
    induction d with
    | zero =>
      intro t g ht h1
      have e : t = nT := by omega
      rw [e] at h1
      rw [e]
      exact br_t Int32.le_rfl ⟨nC + 1, cl nC 0 g (by omega) h1 (fun c' s hc' => absurd hc' (by omega))⟩
    | succ d ih =>
      intro t g ht h1
      refine br_f (nI_ge (by omega) (by omega)) ?_
      rw [tf_8 t]
      refine tx_flattenOwner hS hT hK hE hV (by omega) (fun u r hu h8 hr => h1 u r (by have := h8 (by omega); omega) hr) (fun g' h3 h4 => nm_r (nI_1 t) (ih (t + 1) g' (by omega) (fun t' s ht' hs => ?_)))
      by_cases e : t' = t
      · have h5 := h3 s hs
        rw [tf_PR_tr hT hS hV (by omega) hs, show (8 + t) * 16 + s = 128 + (t * 16 + s) by omega] at h5
        rw [e]
        exact h5
      · rw [h4 _ (by omega)]
        exact h1 t' s (by omega) hs
  exact ⟨nT + 1, tl nT 0 fl (by omega) (fun t' s ht' => absurd ht' (by omega))⟩
