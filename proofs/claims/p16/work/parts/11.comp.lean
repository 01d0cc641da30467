theorem tx_excl_t {nC nT nS nD nB nK : Nat} {ls rr rc sp fc : Int32} {L op kk su own ow tr xe al fl fA fC fT fP fB fH : Nat → Int32} {ex : Nat → Int32} {post : Int32 → St2 → Prop} (hC : nC ≤ 8) (hT : nT ≤ 8) (hS : nS ≤ 16) (hK : nK ≤ 16) (hE : tf_EX nS xe ex) (hV : tf_CV nT nS nK ow tr al) {k s : Nat} (hk : k < nK) (hs : s < nS) (p : ∀ g : Nat → Int32, tf_FL nC nT nS nK own ow tr (upd ex (k * 16 + s) 1) al g → post 1 (nI nC, nI nT, nI nS, nI nD, nI nB, nI nK, ls, rr, rc, sp, fc, L, op, kk, su, own, ow, tr, upd xe k (xe k ||| ((1 : Int32) <<< (nI s &&& 31))), al, g, fA, fC, fT, fP, fB, fH)) : wpX_exclude post (nI nC, nI nT, nI nS, nI nD, nI nB, nI nK, ls, rr, rc, sp, fc, L, op, kk, su, own, ow, tr, xe, al, fl, fA, fC, fT, fP, fB, fH) (nI k) (nI s) := by
  unfold wpX_exclude
  refine tx_isComponent_t hK ⟨k, hk, rfl⟩ (br_f (by decide) (tx_isSelector_t hS ⟨s, hs, rfl⟩ (br_f (by decide) ?_)))
  rw [nI_clamp (show k < 2 ^ 31 by omega)]
  exact ⟨vp_in_nI (by omega) (by omega), vp_in_nI (by omega) (by omega), nm_e (tx_flattenAll hC hS hT hK (tf_EX_upd hS hE (by omega) hs) hV p)⟩
theorem tx_excl_f {nC nT nS nD nB nK : Nat} {ls rr rc sp fc : Int32} {L op kk su own ow tr xe al fl fA fC fT fP fB fH : Nat → Int32} {post : Int32 → St2 → Prop} (hS : nS ≤ 16) (hK : nK ≤ 16) {v1 v2 : Int32} (h : ¬ (tf_in v1 nK ∧ tf_in v2 nS)) (p : post 0 (nI nC, nI nT, nI nS, nI nD, nI nB, nI nK, ls, rr, rc, sp, fc, L, op, kk, su, own, ow, tr, xe, al, fl, fA, fC, fT, fP, fB, fH)) : wpX_exclude post (nI nC, nI nT, nI nS, nI nD, nI nB, nI nK, ls, rr, rc, sp, fc, L, op, kk, su, own, ow, tr, xe, al, fl, fA, fC, fT, fP, fB, fH) v1 v2 := by
  unfold wpX_exclude
  by_cases a : tf_in v1 nK
  · exact tx_isComponent_t hK a (br_f (by decide) (tx_isSelector_f hS (fun b => h ⟨a, b⟩) (br_t rfl p)))
  · exact tx_isComponent_f hK a (br_t rfl p)
theorem tx_al_n {nC nT nS nD nB nK : Nat} {ls rr rc sp fc : Int32} {L op kk su own ow tr xe al fl fA fC fT fP fB fH : Nat → Int32} {ex : Nat → Int32} {post : Int32 → St2 → Prop} (hC : nC ≤ 8) (hT : nT ≤ 8) (hS : nS ≤ 16) (hK : nK ≤ 16) (hE : tf_EX nS xe ex) {k n r : Nat} (hk : k < nK) (hn : n < nS) (hr : r < nS) (ha : al (k * 16 + n) = -1) (hV : tf_CV nT nS nK ow tr (upd al (k * 16 + n) (nI r))) (p : ∀ g : Nat → Int32, tf_FL nC nT nS nK own ow tr ex (upd al (k * 16 + n) (nI r)) g → post 1 (nI nC, nI nT, nI nS, nI nD, nI nB, nI nK, ls, rr, rc, sp, fc, L, op, kk, su, own, ow, tr, xe, upd al (k * 16 + n) (nI r), g, fA, fC, fT, fP, fB, fH)) : wpX_alias post (nI nC, nI nT, nI nS, nI nD, nI nB, nI nK, ls, rr, rc, sp, fc, L, op, kk, su, own, ow, tr, xe, al, fl, fA, fC, fT, fP, fB, fH) (nI k) (nI n) (nI r) := by
  unfold wpX_alias
  refine tx_isComponent_t hK ⟨k, hk, rfl⟩ (br_f (by decide) (tx_isSelector_t hS ⟨n, hn, rfl⟩ (br_f (by decide) (tx_isSelector_t hS ⟨r, hr, rfl⟩ (br_f (by decide) (nm_r (tf_ix k n) ⟨vp_in_nI (by omega) (by omega), ?_⟩))))))
  rw [nI_clamp (show k * 16 + n < 2 ^ 31 by omega)]
  exact br_t ha ⟨vp_in_nI (by omega) (by omega), nm_e (tx_flattenAll hC hS hT hK hE hV p)⟩
theorem tx_al_o {nC nT nS nD nB nK : Nat} {ls rr rc sp fc : Int32} {L op kk su own ow tr xe al fl fA fC fT fP fB fH : Nat → Int32} {post : Int32 → St2 → Prop} (hS : nS ≤ 16) (hK : nK ≤ 16) {k n r q : Nat} (hk : k < nK) (hn : n < nS) (hr : r < nS) (hq : q < nS) (ha : al (k * 16 + n) = nI q) (p : post (if q = r then 1 else 0) (nI nC, nI nT, nI nS, nI nD, nI nB, nI nK, ls, rr, rc, sp, fc, L, op, kk, su, own, ow, tr, xe, al, fl, fA, fC, fT, fP, fB, fH)) : wpX_alias post (nI nC, nI nT, nI nS, nI nD, nI nB, nI nK, ls, rr, rc, sp, fc, L, op, kk, su, own, ow, tr, xe, al, fl, fA, fC, fT, fP, fB, fH) (nI k) (nI n) (nI r) := by
  unfold wpX_alias
  refine tx_isComponent_t hK ⟨k, hk, rfl⟩ (br_f (by decide) (tx_isSelector_t hS ⟨n, hn, rfl⟩ (br_f (by decide) (tx_isSelector_t hS ⟨r, hr, rfl⟩ (br_f (by decide) (nm_r (tf_ix k n) ⟨vp_in_nI (by omega) (by omega), ?_⟩))))))
  rw [nI_clamp (show k * 16 + n < 2 ^ 31 by omega), ha]
  refine br_f (tf_m1 (by omega)) ⟨vp_in_nI (by omega) (by omega), pk_eq q r (fun e => ?_) (fun e => ?_)⟩
  · rw [if_pos e] at p
    exact p
  · rw [if_neg e] at p
    exact p
theorem tx_al_f {nC nT nS nD nB nK : Nat} {ls rr rc sp fc : Int32} {L op kk su own ow tr xe al fl fA fC fT fP fB fH : Nat → Int32} {post : Int32 → St2 → Prop} (hS : nS ≤ 16) (hK : nK ≤ 16) {v1 v2 v3 : Int32} (h : ¬ (tf_in v1 nK ∧ tf_in v2 nS ∧ tf_in v3 nS)) (p : post 0 (nI nC, nI nT, nI nS, nI nD, nI nB, nI nK, ls, rr, rc, sp, fc, L, op, kk, su, own, ow, tr, xe, al, fl, fA, fC, fT, fP, fB, fH)) : wpX_alias post (nI nC, nI nT, nI nS, nI nD, nI nB, nI nK, ls, rr, rc, sp, fc, L, op, kk, su, own, ow, tr, xe, al, fl, fA, fC, fT, fP, fB, fH) v1 v2 v3 := by
  unfold wpX_alias
  by_cases a : tf_in v1 nK
  · refine tx_isComponent_t hK a (br_f (by decide) ?_)
    by_cases b : tf_in v2 nS
    · exact tx_isSelector_t hS b (br_f (by decide) (tx_isSelector_f hS (fun c => h ⟨a, b, c⟩) (br_t rfl p)))
    · exact tx_isSelector_f hS b (br_t rfl p)
  · exact tx_isComponent_f hK a (br_t rfl p)
/-- what a component's field is: 0, 1, 2, 16 + n, or nothing -/
theorem tf_fld (v : Int32) {nS : Nat} (hS : nS ≤ 16) : v = 0 ∨ v = 1 ∨ v = 2 ∨ (∃ n, n < nS ∧ v = nI (16 + n)) ∨ (¬ v = 0 ∧ ¬ v = 1 ∧ ¬ v = 2 ∧ (v < 16 ∨ (¬ v < 16 ∧ 16 + nI nS ≤ v))) := by
  by_cases a : v = 0
  · exact Or.inl a
  · by_cases b : v = 1
    · exact Or.inr (Or.inl b)
    · by_cases c : v = 2
      · exact Or.inr (Or.inr (Or.inl c))
      · right; right; right
        have h16 : nI 16 = 16 := rfl
        rcases pk_ix v (n := 16 + nS) (by omega) with d | d | ⟨j, hj, d⟩
        · exact Or.inr ⟨a, b, c, Or.inl (Int32.lt_of_lt_of_le d (by decide))⟩
        · refine Or.inr ⟨a, b, c, Or.inr ⟨?_, ?_⟩⟩
          · rw [Int32.not_lt, ← h16]
            exact Int32.le_trans (nI_le (by omega) (by omega)) d
          · rw [tf_16]
            exact d
        · rcases Nat.lt_or_ge j 16 with g | g
          · refine Or.inr ⟨a, b, c, Or.inl ?_⟩
            rw [d]
            exact nI_lt (b := 16) g (by omega)
          · exact Or.inl ⟨j - 16, by omega, by rw [d]; exact congrArg nI (by omega)⟩
theorem tf_m16 (n : Nat) : nI (16 + n) - 16 = nI n := by
  show nI (16 + n) - nI 16 = nI n
  rw [pk_sub (by omega), Nat.add_sub_cancel_left]
theorem tf_f16 {n : Nat} (h : n < 16) : (¬ nI (16 + n) = 0) ∧ (¬ nI (16 + n) = 1) ∧ (¬ nI (16 + n) = 2) ∧ ¬ nI (16 + n) < 16 := by
  refine ⟨nI_ne0 (by omega) (by omega), ?_, ?_, nI_nlt (b := 16) (by omega) (by omega)⟩
  · intro z
    have := (nI_eq (b := 1) (by omega) (by omega)).mp z
    omega
  · intro z
    have := (nI_eq (b := 2) (by omega) (by omega)).mp z
    omega
theorem tx_ci_f {nC nT nS nD nB nK : Nat} {ls rr rc sp fc : Int32} {L op kk su own ow tr xe al fl fA fC fT fP fB fH : Nat → Int32} {post : Int32 → Prop} (hK : nK ≤ 16) {v1 v2 : Int32} (h : ¬ tf_in v1 nK) (p : post (-3)) : wpX_componentInfo post (nI nC, nI nT, nI nS, nI nD, nI nB, nI nK, ls, rr, rc, sp, fc, L, op, kk, su, own, ow, tr, xe, al, fl, fA, fC, fT, fP, fB, fH) v1 v2 := by
  unfold wpX_componentInfo
  exact tx_isComponent_f hK h (br_t rfl p)
theorem tx_ci_0 {nC nT nS nD nB nK : Nat} {ls rr rc sp fc : Int32} {L op kk su own ow tr xe al fl fA fC fT fP fB fH : Nat → Int32} {post : Int32 → Prop} (hK : nK ≤ 16) {k : Nat} (hk : k < nK) (p : post (ow k)) : wpX_componentInfo post (nI nC, nI nT, nI nS, nI nD, nI nB, nI nK, ls, rr, rc, sp, fc, L, op, kk, su, own, ow, tr, xe, al, fl, fA, fC, fT, fP, fB, fH) (nI k) 0 := by
  unfold wpX_componentInfo
  refine tx_isComponent_t hK ⟨k, hk, rfl⟩ (br_f (by decide) (br_t rfl ⟨vp_in_nI (by omega) (by omega), ?_⟩))
  rw [nI_clamp (show k < 2 ^ 31 by omega)]
  exact p
theorem tx_ci_1 {nC nT nS nD nB nK : Nat} {ls rr rc sp fc : Int32} {L op kk su own ow tr xe al fl fA fC fT fP fB fH : Nat → Int32} {post : Int32 → Prop} (hK : nK ≤ 16) {k : Nat} (hk : k < nK) (p : post (tr k)) : wpX_componentInfo post (nI nC, nI nT, nI nS, nI nD, nI nB, nI nK, ls, rr, rc, sp, fc, L, op, kk, su, own, ow, tr, xe, al, fl, fA, fC, fT, fP, fB, fH) (nI k) 1 := by
  unfold wpX_componentInfo
  refine tx_isComponent_t hK ⟨k, hk, rfl⟩ (br_f (by decide) (br_f (by decide) (br_t rfl ⟨vp_in_nI (by omega) (by omega), ?_⟩)))
  rw [nI_clamp (show k < 2 ^ 31 by omega)]
  exact p
theorem tx_ci_2 {nC nT nS nD nB nK : Nat} {ls rr rc sp fc : Int32} {L op kk su own ow tr xe al fl fA fC fT fP fB fH : Nat → Int32} {post : Int32 → Prop} (hK : nK ≤ 16) {k : Nat} (hk : k < nK) (p : post (xe k)) : wpX_componentInfo post (nI nC, nI nT, nI nS, nI nD, nI nB, nI nK, ls, rr, rc, sp, fc, L, op, kk, su, own, ow, tr, xe, al, fl, fA, fC, fT, fP, fB, fH) (nI k) 2 := by
  unfold wpX_componentInfo
  refine tx_isComponent_t hK ⟨k, hk, rfl⟩ (br_f (by decide) (br_f (by decide) (br_f (by decide) (br_t rfl ⟨vp_in_nI (by omega) (by omega), ?_⟩))))
  rw [nI_clamp (show k < 2 ^ 31 by omega)]
  exact p
theorem tx_ci_a {nC nT nS nD nB nK : Nat} {ls rr rc sp fc : Int32} {L op kk su own ow tr xe al fl fA fC fT fP fB fH : Nat → Int32} {post : Int32 → Prop} (hK : nK ≤ 16) (hS : nS ≤ 16) {k n : Nat} (hk : k < nK) (hn : n < nS) (p : post (al (k * 16 + n))) : wpX_componentInfo post (nI nC, nI nT, nI nS, nI nD, nI nB, nI nK, ls, rr, rc, sp, fc, L, op, kk, su, own, ow, tr, xe, al, fl, fA, fC, fT, fP, fB, fH) (nI k) (nI (16 + n)) := by
  unfold wpX_componentInfo
  obtain ⟨a, b, c, d⟩ := tf_f16 (n := n) (by omega)
  refine tx_isComponent_t hK ⟨k, hk, rfl⟩ (br_f (by decide) (br_f a (br_f b (br_f c (br_f d (br_f ?_ ?_))))))
  · rw [tf_16]
    exact nI_ge (by omega) (by omega)
  · rw [tf_m16, tf_ix, nI_clamp (show k * 16 + n < 2 ^ 31 by omega)]
    exact ⟨vp_in_nI (by omega) (by omega), p⟩
theorem tx_ci_n {nC nT nS nD nB nK : Nat} {ls rr rc sp fc : Int32} {L op kk su own ow tr xe al fl fA fC fT fP fB fH : Nat → Int32} {post : Int32 → Prop} (hK : nK ≤ 16) {k : Nat} {v : Int32} (hk : k < nK) (h : ¬ v = 0 ∧ ¬ v = 1 ∧ ¬ v = 2 ∧ (v < 16 ∨ (¬ v < 16 ∧ 16 + nI nS ≤ v))) (p : post (-3)) : wpX_componentInfo post (nI nC, nI nT, nI nS, nI nD, nI nB, nI nK, ls, rr, rc, sp, fc, L, op, kk, su, own, ow, tr, xe, al, fl, fA, fC, fT, fP, fB, fH) (nI k) v := by
  unfold wpX_componentInfo
  obtain ⟨a, b, c, d⟩ := h
  refine tx_isComponent_t hK ⟨k, hk, rfl⟩ (br_f (by decide) (br_f a (br_f b (br_f c ?_))))
  rcases d with d | ⟨d, e⟩
  · exact br_t d p
  · exact br_f d (br_t e p)
def tf_st (su : Nat → Int32) (c q : Nat) : Int32 := if q = 1 ∨ q = 3 then su c else nI c
def tf_wh (q : Nat) : Int32 := if q < 2 then 0 else 1
theorem tf_st_cl {nC : Nat} {su : Nat → Int32} (hU : tf_SV nC su) {c : Nat} (hc : c < nC) (q : Nat) : tf_cl nC (tf_st su c q) := by
  unfold tf_st
  split
  · exact tf_SV_cl hU hc
  · exact Or.inr ⟨c, hc, rfl⟩
theorem tx_lk60 {nC nT nS nD nB nK : Nat} {ls rr rc sp fc : Int32} {L op kk su own ow tr xe al fl fA fC fT fP fB fH : Nat → Int32} {ex : Nat → Int32} {post : Int32 → Prop} (hC : nC ≤ 8) (hS : nS ≤ 16) (hF : tf_FL nC nT nS nK own ow tr ex al fl) (hU : tf_SV nC su) {s q : Nat} (hs : s < nS) (hq : q < 4) {x : Int32} (hx : tf_cl nC x) (p : post (tf_lw su (fun c => tf_PR own ow tr ex al nK c s) (tf_wh q) 8 x)) : wX_lookup_60 post (nI s) (nI q) x (nI nC) (nI nT) (nI nS) (nI nD) (nI nB) (nI nK) ls rr rc sp fc L op kk su own ow tr xe al fl fA fC fT fP fB fH := by
  unfold wX_lookup_60
  refine tx_findHome hC hS hF hU hs hx ?_
  rcases tf_fh_cl (P := fun c => tf_PR own ow tr ex al nK c s) hC hU 8 x hx with e | ⟨h, hh, e, hn⟩
  · rw [e]
    refine br_t rfl ?_
    unfold tf_lw at p
    rw [e] at p
    by_cases w : tf_wh q = 0
    · rw [if_pos w, if_pos rfl] at p
      exact p
    · rw [if_neg w] at p
      exact p
  · rw [e]
    refine br_f (tf_m1 (by omega)) ?_
    unfold tf_lw at p
    rw [e, if_neg (tf_m1 (by omega)), nI_clamp (show h < 2 ^ 31 by omega)] at p
    have g : fl (h * 16 + s) = tf_PR own ow tr ex al nK h s := hF h s (Or.inl hh) hs
    by_cases w : q < 2
    · have w2 : tf_wh q = 0 := if_pos w
      rw [if_pos w2] at p
      refine pk_eq q 2 (fun z => absurd z (by omega)) (fun _ => pk_eq q 3 (fun z => absurd z (by omega)) (fun _ => ?_))
      rw [tf_ix, nI_clamp (show h * 16 + s < 2 ^ 31 by omega), g]
      exact ⟨vp_in_nI (by omega) (by omega), p⟩
    · have w2 : ¬ tf_wh q = 0 := by
        unfold tf_wh
        rw [if_neg w]
        decide
      rw [if_neg w2] at p
      exact pk_eq q 2 (fun _ => p) (fun z => pk_eq q 3 (fun _ => p) (fun z2 => absurd z2 (by omega)))
theorem tx_lk_t {nC nT nS nD nB nK : Nat} {ls rr rc sp fc : Int32} {L op kk su own ow tr xe al fl fA fC fT fP fB fH : Nat → Int32} {ex : Nat → Int32} {post : Int32 → Prop} (hC : nC ≤ 8) (hS : nS ≤ 16) (hF : tf_FL nC nT nS nK own ow tr ex al fl) (hU : tf_SV nC su) {c s q : Nat} (hc : c < nC) (hs : s < nS) (hq : q < 4) (p : post (tf_lw su (fun c => tf_PR own ow tr ex al nK c s) (tf_wh q) 8 (tf_st su c q))) : wpX_lookup post (nI nC, nI nT, nI nS, nI nD, nI nB, nI nK, ls, rr, rc, sp, fc, L, op, kk, su, own, ow, tr, xe, al, fl, fA, fC, fT, fP, fB, fH) (nI c) (nI s) (nI q) := by
  unfold wpX_lookup
  have w := tx_lk60 (nD := nD) (nB := nB) (ls := ls) (rr := rr) (rc := rc) (sp := sp) (fc := fc) (L := L) (op := op) (kk := kk) (xe := xe) (fA := fA) (fC := fC) (fT := fT) (fP := fP) (fB := fB) (fH := fH) hC hS hF hU hs hq (tf_st_cl hU hc q) p
  refine tx_isClass_t hC ⟨c, hc, rfl⟩ (br_f (by decide) (tx_isSelector_t hS ⟨s, hs, rfl⟩ (br_f (by decide) (br_f (nI_pos (by omega)) (br_t (nI_le (b := 3) (by omega) (by omega)) ?_)))))
  have w43 : (q = 1 ∨ q = 3) → wX_lookup_43 post (nI c) (nI s) (nI q) 1 (nI nC) (nI nT) (nI nS) (nI nD) (nI nB) (nI nK) ls rr rc sp fc L op kk su own ow tr xe al fl fA fC fT fP fB fH := by
    intro h
    unfold tf_st at w
    rw [if_pos h] at w
    unfold wX_lookup_43
    rw [nI_clamp (show c < 2 ^ 31 by omega)]
    exact br_f (by decide) ⟨vp_in_nI (by omega) (by omega), w⟩
  refine pk_eq q 1 (fun h => w43 (Or.inl h)) (fun h => pk_eq q 3 (fun h2 => w43 (Or.inr h2)) (fun h2 => ?_))
  unfold tf_st at w
  rw [if_neg (by omega)] at w
  exact br_t rfl w
theorem tx_lk_f {nC nT nS nD nB nK : Nat} {ls rr rc sp fc : Int32} {L op kk su own ow tr xe al fl fA fC fT fP fB fH : Nat → Int32} {post : Int32 → Prop} (hC : nC ≤ 8) (hS : nS ≤ 16) {v1 v2 v3 : Int32} (h : ¬ (tf_in v1 nC ∧ tf_in v2 nS ∧ tf_in v3 4)) (p : post (-3)) : wpX_lookup post (nI nC, nI nT, nI nS, nI nD, nI nB, nI nK, ls, rr, rc, sp, fc, L, op, kk, su, own, ow, tr, xe, al, fl, fA, fC, fT, fP, fB, fH) v1 v2 v3 := by
  unfold wpX_lookup
  by_cases a : tf_in v1 nC
  · refine tx_isClass_t hC a (br_f (by decide) ?_)
    by_cases b : tf_in v2 nS
    · refine tx_isSelector_t hS b (br_f (by decide) ?_)
      rcases tf_nin (n := 4) (by omega) (fun c => h ⟨a, b, c⟩) with e | ⟨e, e2, _⟩
      · exact br_t e p
      · exact br_f e (br_f (fun z => absurd (Int32.le_trans e2 z) (by decide)) p)
    · exact tx_isSelector_f hS b (br_t rfl p)
  · exact tx_isClass_f hC a (br_t rfl p)
