/-! the constructors -/
theorem tx_clamp {post : Int32 → Prop} {v : Int32} {g : Nat} (p : post (nI (tf_cp v g))) : wpX_clamp post v (nI g) := by
  by_cases c : v < 1
  · rw [tf_cp_1 c] at p
    exact br_f (Int32.not_le.mpr c) p
  · by_cases c2 : nI g < v
    · rw [tf_cp_g c c2] at p
      exact br_t (Int32.not_lt.mp c) (br_f (Int32.not_le.mpr c2) p)
    · rw [tf_cp_v c c2] at p
      exact br_t (Int32.not_lt.mp c) (br_t (Int32.not_lt.mp c2) p)
theorem ty_clamp {x1 x2 x3 x4 x5 x6 dp rs st : Int32} {op kk L su own ow tr ex al tp fB fH fA fC fT fP : Nat → Int32} {post : Int32 → Prop} {v : Int32} {g : Nat} (p : post (nI (tf_cp v g))) : wpY_clamp post (x1, x2, x3, x4, x5, x6, dp, rs, st, op, kk, L, su, own, ow, tr, ex, al, tp, fB, fH, fA, fC, fT, fP) v 1 (nI g) := by
  by_cases c : v < 1
  · rw [tf_cp_1 c] at p
    exact br_f (Int32.not_le.mpr c) p
  · by_cases c2 : nI g < v
    · rw [tf_cp_g c c2] at p
      exact br_t (Int32.not_lt.mp c) (br_f (Int32.not_le.mpr c2) p)
    · rw [tf_cp_v c c2] at p
      exact br_t (Int32.not_lt.mp c) (br_t (Int32.not_lt.mp c2) p)
theorem tx_init {nC nT nS nD nB nK : Nat} {ls rr rc sp fc : Int32} {L op kk ow tr xe fA fC fT fP fB fH : Nat → Int32} {post : SX → Prop} (p : post (nI nC, nI nT, nI nS, nI nD, nI nB, nI nK, ls, rr, rc, sp, fc, L, op, kk, tf_ini 8, tf_ini 256, ow, tr, xe, tf_ini 256, tf_ini 256, fA, fC, fT, fP, fB, fH)) : ∃ n, wX_init_216 post (nI nC) (nI nT) (nI nS) (nI nD) (nI nB) (nI nK) ls rr rc sp fc n 0 L op kk (tf_ini 0) (tf_ini 0) ow tr xe (tf_ini 0) (tf_ini 0) fA fC fT fP fB fH := by
  have c3 : ∀ d j, j + d = 256 → wX_init_273 post (nI nC) (nI nT) (nI nS) (nI nD) (nI nB) (nI nK) ls rr rc sp fc (d + 1) (nI j) L op kk (tf_ini 8) (tf_ini 256) ow tr xe (tf_ini j) (tf_ini 256) fA fC fT fP fB fH := by
    intro d
    induction d with
    | zero =>
      intro j hj
      have e : j = 256 := by omega
      rw [e]
      exact br_t (nI_le (a := 256) (by omega) (by omega)) p
    | succ d ih =>
      intro j hj
      exact br_f (nI_ge (b := 256) (by omega) (by omega)) ⟨vp_in_nI (by omega) (by omega), nm_r (by rw [nI_clamp (by omega), tf_ini_s]) (nm_r (nI_1 j) (ih (j + 1) (by omega)))⟩
  have c2 : ∀ d j, j + d = 256 → wX_init_240 post (nI nC) (nI nT) (nI nS) (nI nD) (nI nB) (nI nK) ls rr rc sp fc (d + 1) (nI j) L op kk (tf_ini 8) (tf_ini j) ow tr xe (tf_ini 0) (tf_ini j) fA fC fT fP fB fH := by
    intro d
    induction d with
    | zero =>
      intro j hj
      have e : j = 256 := by omega
      rw [e]
      exact br_t (nI_le (a := 256) (by omega) (by omega)) ⟨257, c3 256 0 rfl⟩
    | succ d ih =>
      intro j hj
      exact br_f (nI_ge (b := 256) (by omega) (by omega)) ⟨vp_in_nI (by omega) (by omega), nm_r (by rw [nI_clamp (by omega), tf_ini_s]) ⟨vp_in_nI (by omega) (by omega), nm_r (by rw [nI_clamp (by omega), tf_ini_s]) (nm_r (nI_1 j) (ih (j + 1) (by omega)))⟩⟩
  have c1 : ∀ d j, j + d = 8 → wX_init_216 post (nI nC) (nI nT) (nI nS) (nI nD) (nI nB) (nI nK) ls rr rc sp fc (d + 1) (nI j) L op kk (tf_ini j) (tf_ini 0) ow tr xe (tf_ini 0) (tf_ini 0) fA fC fT fP fB fH := by
    intro d
    induction d with
    | zero =>
      intro j hj
      have e : j = 8 := by omega
      rw [e]
      exact br_t (nI_le (a := 8) (by omega) (by omega)) ⟨257, c2 256 0 rfl⟩
    | succ d ih =>
      intro j hj
      exact br_f (nI_ge (b := 8) (by omega) (by omega)) ⟨vp_in_nI (by omega) (by omega), nm_r (by rw [nI_clamp (by omega), tf_ini_s]) (nm_r (nI_1 j) (ih (j + 1) (by omega)))⟩
  exact ⟨9, c1 8 0 rfl⟩
theorem ty_init {nC nT nS nD nB nK : Nat} {dp rs : Int32} {op kk L ow tr ex tp fB fH fA fC fT fP : Nat → Int32} {s0 : Int32} {post : SY → Prop} (p : post (nI nC, nI nT, nI nS, nI nD, nI nB, nI nK, dp, rs, 0, op, kk, L, tf_ini 8, tf_ini 256, ow, tr, ex, tf_ini 256, tp, fB, fH, fA, fC, fT, fP)) : ∃ n, wY_init_190 post (nI nC) (nI nT) (nI nS) (nI nD) (nI nB) (nI nK) dp rs s0 n 0 op kk L (tf_ini 0) (tf_ini 0) ow tr ex (tf_ini 0) tp fB fH fA fC fT fP := by
  have c2 : ∀ d j, j + d = 256 → wY_init_214 post (nI nC) (nI nT) (nI nS) (nI nD) (nI nB) (nI nK) dp rs s0 (d + 1) (nI j) op kk L (tf_ini 8) (tf_ini j) ow tr ex (tf_ini j) tp fB fH fA fC fT fP := by
    intro d
    induction d with
    | zero =>
      intro j hj
      have e : j = 256 := by omega
      rw [e]
      exact br_t (nI_le (a := 256) (by omega) (by omega)) p
    | succ d ih =>
      intro j hj
      exact br_f (nI_ge (b := 256) (by omega) (by omega)) ⟨vp_in_nI (by omega) (by omega), nm_r (by rw [nI_clamp (by omega), tf_ini_s]) ⟨vp_in_nI (by omega) (by omega), nm_r (by rw [nI_clamp (by omega), tf_ini_s]) (nm_r (nI_1 j) (ih (j + 1) (by omega)))⟩⟩
  have c1 : ∀ d j, j + d = 8 → wY_init_190 post (nI nC) (nI nT) (nI nS) (nI nD) (nI nB) (nI nK) dp rs s0 (d + 1) (nI j) op kk L (tf_ini j) (tf_ini 0) ow tr ex (tf_ini 0) tp fB fH fA fC fT fP := by
    intro d
    induction d with
    | zero =>
      intro j hj
      have e : j = 8 := by omega
      rw [e]
      exact br_t (nI_le (a := 8) (by omega) (by omega)) ⟨257, c2 256 0 rfl⟩
    | succ d ih =>
      intro j hj
      exact br_f (nI_ge (b := 8) (by omega) (by omega)) ⟨vp_in_nI (by omega) (by omega), nm_r (by rw [nI_clamp (by omega), tf_ini_s]) (nm_r (nI_1 j) (ih (j + 1) (by omega)))⟩
  exact ⟨9, c1 8 0 rfl⟩
theorem i_up {k : Nat} {u : SX} {v : SY} (h : i_Rel k u v) : i_Rel (k + 4) u v := h
theorem i_vc0 (k0 : Int32) (k1 : Int32) (k2 : Int32) (k3 : Int32) : wpX_init (fun u => wpY_init (fun v => i_Rel 4 u v) k0 k1 k2 k3) k0 k1 k2 k3 := by
  have hY := fun (u : SX) (p : i_Rel 4 u (nI (tf_cp k0 8), nI (tf_cp k1 8), nI (tf_cp k2 16), nI (tf_cp k3 16), nI 0, nI 0, 0, 0, 0, fun _ => 0, fun _ => 0, fun _ => 0, tf_ini 8, tf_ini 256, fun _ => 0, fun _ => 0, fun _ => 0, tf_ini 256, fun _ => 0, fun _ => 0, fun _ => 0, fun _ => 0, fun _ => 0, fun _ => 0, fun _ => 0)) => ty_init (s0 := 0) (post := fun v => i_Rel 4 u v) p
  have hX := fun (post : SX → Prop) (p : post (nI (tf_cp k0 8), nI (tf_cp k1 8), nI (tf_cp k2 16), nI (tf_cp k3 16), nI 0, nI 0, 0, 0, 0, 0, 0, fun _ => 0, fun _ => 0, fun _ => 0, tf_ini 8, tf_ini 256, fun _ => 0, fun _ => 0, fun _ => 0, tf_ini 256, tf_ini 256, fun _ => 0, fun _ => 0, fun _ => 0, fun _ => 0, fun _ => 0, fun _ => 0)) => tx_init (post := post) p
  rw [tf_ini_0] at hX
  rw [tf_ini_0] at hY
  unfold wpX_init
  refine tx_clamp (g := 8) (tx_clamp (g := 8) (tx_clamp (g := 16) (tx_clamp (g := 16) (hX _ ?_))))
  unfold wpY_init
  refine ty_clamp (g := 8) (ty_clamp (g := 8) (ty_clamp (g := 16) (ty_clamp (g := 16) (hY _ ?_))))
  exact tf_mk (tf_ok0 (tf_cp_in k0 (by decide) (by decide)) (tf_cp_in k1 (by decide) (by decide)) (tf_cp_in k2 (by decide) (by decide)) (tf_cp_in k3 (by decide) (by decide)))
