theorem tf_mg_n (a : Int32) : tf_mg a (-1) = a := if_pos rfl
theorem tf_ix (b i : Nat) : nI b * 16 + nI i = nI (b * 16 + i) := by
  show nI b * nI 16 + nI i = _
  rw [pk_mul, nI_add]
def tf_ini (n : Nat) : Nat → Int32 := fun i => if i < n then -1 else 0
theorem tf_ini_0 : tf_ini 0 = fun _ => 0 := by
  funext i
  exact if_neg (by omega)
theorem tf_ini_s (n : Nat) : upd (tf_ini n) n (-1) = tf_ini (n + 1) := by
  funext i
  unfold upd tf_ini
  by_cases c : i = n
  · rw [if_pos c, if_pos (by omega)]
  · rw [if_neg c]
    by_cases c2 : i < n
    · rw [if_pos c2, if_pos (by omega)]
    · rw [if_neg c2, if_neg (by omega)]
theorem tf_ini_lt {n i : Nat} (h : i < n) : tf_ini n i = -1 := if_pos h
def tf_cp (v : Int32) (g : Nat) : Nat := if v < 1 then 1 else if nI g < v then g else v.toNatClampNeg
theorem tf_cp_in (v : Int32) {g : Nat} (h1 : 1 ≤ g) (hg : g < 2 ^ 31) : 1 ≤ tf_cp v g ∧ tf_cp v g ≤ g := by
  unfold tf_cp
  by_cases c : v < 1
  · rw [if_pos c]; omega
  · rw [if_neg c]
    by_cases c2 : nI g < v
    · rw [if_pos c2]; omega
    · rw [if_neg c2]
      rw [Int32.lt_iff_toInt_lt, show (1 : Int32).toInt = 1 from by decide] at c
      rw [Int32.lt_iff_toInt_lt, nI_toInt hg] at c2
      have e : v.toNatClampNeg = v.toInt.toNat := rfl
      rw [e]
      omega
theorem tf_cp_v {v : Int32} {g : Nat} (c : ¬ v < 1) (c2 : ¬ nI g < v) : nI (tf_cp v g) = v := by
  unfold tf_cp
  rw [if_neg c, if_neg c2]
  have h0 : ¬ v < 0 := by
    intro z
    rw [Int32.lt_iff_toInt_lt, show (1 : Int32).toInt = 1 from by decide] at c
    rw [Int32.lt_iff_toInt_lt, show (0 : Int32).toInt = 0 from by decide] at z
    omega
  obtain ⟨j, hj, rfl⟩ := nI_of h0
  rw [nI_clamp hj]
theorem tf_cp_1 {v : Int32} {g : Nat} (c : v < 1) : nI (tf_cp v g) = 1 := by
  unfold tf_cp
  rw [if_pos c]
  rfl
theorem tf_cp_g {v : Int32} {g : Nat} (c : ¬ v < 1) (c2 : nI g < v) : nI (tf_cp v g) = nI g := by
  unfold tf_cp
  rw [if_neg c, if_pos c2]
theorem tf_ok0 {nC nT nS nD : Nat} (hC : 1 ≤ nC ∧ nC ≤ 8) (hT : 1 ≤ nT ∧ nT ≤ 8) (hS : 1 ≤ nS ∧ nS ≤ 16) (hD : 1 ≤ nD ∧ nD ≤ 16) : tf_Ok nC nT nS nD 0 0 (fun _ => 0) (fun _ => 0) (fun _ => 0) (tf_ini 8) (tf_ini 256) (fun _ => 0) (fun _ => 0) (fun _ => 0) (fun _ => 0) (tf_ini 256) (tf_ini 256) := by
  refine ⟨⟨hC, hT, hS, hD, by omega, by omega⟩, ⟨fun b _ => ⟨0, by omega, rfl⟩, fun b _ _ => rfl⟩, fun b l i h => absurd h (by omega), fun c hc => Or.inl (tf_ini_lt (by omega)), fun i hi => Or.inl (tf_ini_lt hi), fun k hk => absurd hk (by omega), fun k _ hk => ⟨rfl, fun s hs => tf_ini_lt (by omega)⟩, fun k hk => ⟨0, Nat.two_pow_pos _, rfl, fun s hs => ?_⟩, fun o s ho hs => ?_⟩
  · rw [Nat.zero_testBit]
    rfl
  · have h : o * 16 + s < 256 := by omega
    rw [tf_ini_lt h]
    unfold tf_PR tf_pf
    rw [if_pos (tf_ini_lt h)]
    rfl
