/-! pure words: how they go on -/
section PB
variable {α : Type}
theorem p_cb (a : Int32) (τ : St) (K : Int32 → St → Option α) : cb (some (a, τ)) K = K a τ := rfl
theorem p_cv (τ : St) (K : St → Option α) : cv (some τ) K = K τ := rfl
theorem p_cq (a : Int32) (K : Int32 → Option α) : cq (some a) K = K a := rfl
theorem p_cr (a : Nat) (τ : St) (K : Nat → St → Option α) : cr (some (a, τ)) K = K a τ := rfl
theorem p_cu (K : Option α) : cu (some ()) K = K := rfl
theorem p_nmS (τ : St) (K : St → Option α) : nmS τ K = K τ := rfl
theorem p_nm {β : Type} (x : Int32) (K : Int32 → β) : nm x K = K x := rfl
theorem p_nml {β : Type} (x : Int64) (K : Int64 → β) : nml x K = K x := rfl
theorem p_zb0 (K : Option α) : zb 0 K = K := rfl
theorem p_zb1 (K : Option α) : zb 1 K = K := rfl
theorem p_zb {y : Int32} (h : y = 0 ∨ y = 1) (K : Option α) : zb y K = K := by unfold zb; rw [if_pos h]
theorem p_nz {y : Int32} (h : ¬ y = 0) (K : Option α) : nz y K = K := by unfold nz; rw [if_neg h]
theorem p_rd {n : Nat} {f : Nat → Int32} {i : Int32} (h : vp_in i n) (K : Int32 → Option α) : rdK n f i K = K (f i.toNatClampNeg) := by unfold rdK; rw [if_neg h]
theorem p_wr {n : Nat} {σ : St} {k : Nat} {i v : Int32} (h : vp_in i n) (K : St → Option α) : wrK n σ k i v K = K (st_put σ k i.toNatClampNeg v) := by unfold wrK; rw [if_neg h]
theorem p_rdN {n j : Nat} {f : Nat → Int32} (h : j < n) (hn : n < 2147483648) (K : Int32 → Option α) : rdK n f (nI j) K = K (f j) := by rw [p_rd (vp_in_nI h hn), nI_clamp (by omega)]
theorem p_wrN {n j : Nat} {σ : St} {k : Nat} {v : Int32} (h : j < n) (hn : n < 2147483648) (K : St → Option α) : wrK n σ k (nI j) v K = K (st_put σ k j v) := by rw [p_wr (vp_in_nI h hn), nI_clamp (by omega)]
end PB
theorem sp_same {σ : St} {k i : Nat} {v : Int32} : st_put σ k i v k = upd (σ k) i v := by simp [st_put, st_row]
theorem sp_ne {σ : St} {k a i : Nat} {v : Int32} (h : ¬ a = k) : st_put σ k i v a = σ a := by simp [st_put, st_row, h]
theorem up_same {f : Nat → Int32} {k : Nat} {v : Int32} : upd f k v k = v := by simp [upd]
theorem up_ne {f : Nat → Int32} {k j : Nat} {v : Int32} (h : ¬ j = k) : upd f k v j = f j := by simp [upd, h]
theorem FU_eq : FU = 5000 := rfl
/-- how a number is spelt -/
theorem within_iff (v b : Int32) : fX10_within v b = if 0 ≤ v ∧ v < b then 1 else 0 := by
  unfold fX10_within; grind
theorem isIn_iff (v a b : Int32) : fX11_isIn v a b = if a ≤ v ∧ v ≤ b then 1 else 0 := by
  unfold fX11_isIn; grind
theorem t_grind1 (x : Int32) (h : 0 ≤ x) (h2 : x < 7) : x + 1 ≤ 7 := by grind
theorem t_grind2 (x y : Int32) (h : 0 ≤ x) (h2 : x < 7) (h3 : 0 ≤ y) (h4 : y < 8) : x * 8 + y < 64 := by grind
theorem t_grind3 (x y z : Int32) : x + y - z + y = y + (x + y) - z := by grind
theorem t_grind4 (a b : Nat) (ha : a < 8) (hb : b < 8) : nI a * 8 + nI b = nI (a * 8 + b) := by simp only [show (8 : Int32) = nI 8 from rfl, pk_mul, nI_add]
