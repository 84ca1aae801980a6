/-! the state of a side: place, then slot or index; the environment: classes, array classes, addresses of places, String constants' addresses -/
abbrev St : Type := Nat → Nat → Int32
abbrev Ev : Type := va_G × (ClassId × ClassId) × (Nat → Nat) × (Nat → Nat) × (Nat → Nat)
def eD (E : Ev) : va_G := E.1
def eI (E : Ev) : ClassId := E.2.1.1
def eZ (E : Ev) : ClassId := E.2.1.2
def ea (E : Ev) (k : Nat) : Nat := E.2.2.1 k
def eK (E : Ev) (k : Nat) : Nat := E.2.2.2.1 k
def eV (E : Ev) (k : Nat) : Nat := E.2.2.2.2 k
def eT (E : Ev) : List (ClassId × FieldType) := [(eI E, .int), (eZ E, .boolean)]
def st_row (σ : St) (k : Nat) (r : Nat → Int32) : St := fun a => if a = k then r else σ a
def st_put (σ : St) (k i : Nat) (v : Int32) : St := st_row σ k (upd (σ k) i v)
/-! pure words -/
def rdK {α : Type} (n : Nat) (f : Nat → Int32) (i : Int32) (K : Int32 → Option α) : Option α := if i < 0 ∨ n ≤ i.toNatClampNeg then none else K (f i.toNatClampNeg)
def wrK {α : Type} (n : Nat) (σ : St) (k : Nat) (i v : Int32) (K : St → Option α) : Option α := if i < 0 ∨ n ≤ i.toNatClampNeg then none else K (st_put σ k i.toNatClampNeg v)
def nmS {α : Type} (σ : St) (K : St → Option α) : Option α := K σ
def nm {α : Type} (x : Int32) (K : Int32 → α) : α := K x
def nml {α : Type} (x : Int64) (K : Int64 → α) : α := K x
def nz {α : Type} (y : Int32) (K : Option α) : Option α := if y = 0 then none else K
def zb {α : Type} (y : Int32) (K : Option α) : Option α := if y = 0 ∨ y = 1 then K else none
def cb {α : Type} (x : Option (Int32 × St)) (K : Int32 → St → Option α) : Option α := x.bind fun q => K q.1 q.2
def cv {α : Type} (x : Option St) (K : St → Option α) : Option α := x.bind K
def cq {α : Type} (x : Option Int32) (K : Int32 → Option α) : Option α := x.bind K
def cr {α : Type} (x : Option (Nat × St)) (K : Nat → St → Option α) : Option α := x.bind fun q => K q.1 q.2
def gw {α : Type} (x : Int32) (K : Nat → Option α) : Option α := if x = 44 then K 44 else if x = 51 then K 51 else if x = 58 then K 58 else none
def FU : Nat := 5000
theorem rdK_e {α : Type} {n : Nat} {f : Nat → Int32} {i : Int32} {K : Int32 → Option α} {r : α} (h : rdK n f i K = some r) : vp_in i n ∧ K (f i.toNatClampNeg) = some r := by
  unfold rdK at h
  by_cases c : i < 0 ∨ n ≤ i.toNatClampNeg
  · rw [if_pos c] at h; cases h
  · rw [if_neg c] at h; exact ⟨c, h⟩
theorem rdK_n {α : Type} {n : Nat} {f : Nat → Int32} {i v : Int32} {K : Int32 → Option α} {r : α} (e : v = f i.toNatClampNeg) (h : rdK n f i K = some r) : K v = some r := by rw [e]; exact (rdK_e h).2
theorem wrK_e {α : Type} {n : Nat} {σ : St} {k : Nat} {i v : Int32} {K : St → Option α} {r : α} (h : wrK n σ k i v K = some r) : vp_in i n ∧ ∃ τ, τ = st_put σ k i.toNatClampNeg v ∧ K τ = some r := by
  unfold wrK at h
  by_cases c : i < 0 ∨ n ≤ i.toNatClampNeg
  · rw [if_pos c] at h; cases h
  · rw [if_neg c] at h; exact ⟨c, _, rfl, h⟩
theorem nmS_e {α : Type} {σ : St} {K : St → Option α} {r : Option α} (h : nmS σ K = r) : ∃ τ, τ = σ ∧ K τ = r := ⟨σ, rfl, h⟩
theorem nm_i {α : Type} {x y : Int32} {K : Int32 → α} {r : α} (e : y = x) (h : nm x K = r) : K y = r := by subst e; exact h
theorem nml_i {α : Type} {x y : Int64} {K : Int64 → α} {r : α} (e : y = x) (h : nml x K = r) : K y = r := by subst e; exact h
theorem nz_e {α : Type} {y : Int32} {K : Option α} {r : α} (h : nz y K = some r) : ¬ y = 0 ∧ K = some r := by
  unfold nz at h
  by_cases c : y = 0
  · rw [if_pos c] at h; cases h
  · rw [if_neg c] at h; exact ⟨c, h⟩
theorem zb_e {α : Type} {y : Int32} {K : Option α} {r : α} (h : zb y K = some r) : (y = 0 ∨ y = 1) ∧ K = some r := by
  unfold zb at h
  by_cases c : y = 0 ∨ y = 1
  · rw [if_pos c] at h; exact ⟨c, h⟩
  · rw [if_neg c] at h; cases h
theorem cb_e {α : Type} {x : Option (Int32 × St)} {K : Int32 → St → Option α} {r : α} (h : cb x K = some r) : ∃ a τ, x = some (a, τ) ∧ K a τ = some r := by
  cases x with
  | none => cases h
  | some q => exact ⟨q.1, q.2, rfl, h⟩
theorem cv_e {α : Type} {x : Option St} {K : St → Option α} {r : α} (h : cv x K = some r) : ∃ τ, x = some τ ∧ K τ = some r := by
  cases x with
  | none => cases h
  | some q => exact ⟨q, rfl, h⟩
theorem cq_e {α : Type} {x : Option Int32} {K : Int32 → Option α} {r : α} (h : cq x K = some r) : ∃ a, x = some a ∧ K a = some r := by
  cases x with
  | none => cases h
  | some q => exact ⟨q, rfl, h⟩
theorem cr_e {α : Type} {x : Option (Nat × St)} {K : Nat → St → Option α} {r : α} (h : cr x K = some r) : ∃ a τ, x = some (a, τ) ∧ K a τ = some r := by
  cases x with
  | none => cases h
  | some q => exact ⟨q.1, q.2, rfl, h⟩
def acK {α : Type} (n0 n1 : Nat) (σ : St) (P0 P1 : Nat) (sp dp n : Int32) (K : St → Option α) : Option α := if sp < 0 ∨ dp < 0 ∨ n < 0 ∨ n0 < sp.toNatClampNeg + n.toNatClampNeg ∨ n1 < dp.toNatClampNeg + n.toNatClampNeg then none else K (st_row σ P1 (va_cpy (σ P0) (σ P1) sp.toNatClampNeg dp.toNatClampNeg n.toNatClampNeg))
theorem acK_e {α : Type} {n0 n1 : Nat} {σ : St} {P0 P1 : Nat} {sp dp n : Int32} {K : St → Option α} {r : α} (h : acK n0 n1 σ P0 P1 sp dp n K = some r) : ¬ (sp < 0 ∨ dp < 0 ∨ n < 0 ∨ n0 < sp.toNatClampNeg + n.toNatClampNeg ∨ n1 < dp.toNatClampNeg + n.toNatClampNeg) ∧ ∃ τ, τ = st_row σ P1 (va_cpy (σ P0) (σ P1) sp.toNatClampNeg dp.toNatClampNeg n.toNatClampNeg) ∧ K τ = some r := by
  unfold acK at h
  by_cases c : sp < 0 ∨ dp < 0 ∨ n < 0 ∨ n0 < sp.toNatClampNeg + n.toNatClampNeg ∨ n1 < dp.toNatClampNeg + n.toNatClampNeg
  · rw [if_pos c] at h; cases h
  · rw [if_neg c] at h; exact ⟨c, _, rfl, h⟩
theorem it_t {α : Type} {c : Prop} [Decidable c] {a b r : α} (hc : c) (h : (if c then a else b) = r) : a = r := by rw [if_pos hc] at h; exact h
theorem it_f {α : Type} {c : Prop} [Decidable c] {a b r : α} (hc : ¬ c) (h : (if c then a else b) = r) : b = r := by rw [if_neg hc] at h; exact h
theorem zb_nar {y : Int32} (h : y = 0 ∨ y = 1) : narrow .boolean (.int y) = .int y := by rcases h with rfl | rfl <;> rfl
theorem zb_fit {y : Int32} (h : y = 0 ∨ y = 1) : fits .boolean (.int y) = true := by rcases h with rfl | rfl <;> rfl
def stN (b : Nat) : Nat := if b = 5 then 256 else 144
def fS (b : Nat) : Prop := b = 5 ∨ b = 12 ∨ b = 19
theorem fS_5 : fS 5 := Or.inl rfl
theorem fS_12 : fS 12 := Or.inr (Or.inl rfl)
theorem fS_19 : fS 19 := Or.inr (Or.inr (rfl))
def flS (E : Ev) (b : Nat) (r : Nat → Int32) : List Value := [.int (r 0), .int (r 1), .int (r 2), .ref (ea E (b + 1)), .ref (ea E (b + 2)), .ref (ea E (b + 3)), .ref (ea E (b + 4)), .int (r 7)]
def fV (b : Nat) : Prop := b = 10 ∨ b = 17
theorem fV_10 : fV 10 := Or.inl rfl
theorem fV_17 : fV 17 := Or.inr (rfl)
def flV (E : Ev) (b : Nat) (r : Nat → Int32) : List Value := [.ref (ea E (b + 2)), .ref (ea E (b + 1)), .int (r 2), .int (r 3), .int (r 4), .int (r 5), .int (r 6)]
def fW (b : Nat) : Prop := b = 44 ∨ b = 51 ∨ b = 58
theorem fW_44 : fW 44 := Or.inl rfl
theorem fW_51 : fW 51 := Or.inr (Or.inl rfl)
theorem fW_58 : fW 58 := Or.inr (Or.inr (rfl))
def flW (E : Ev) (b : Nat) (r : Nat → Int32) : List Value := [.int (r 0), .int (r 1), .ref (ea E (b + 1)), .ref (ea E (b + 2)), .ref (ea E (b + 3)), .ref (ea E (b + 4)), .ref (ea E (b + 5)), .ref (ea E (b + 6))]
theorem fV_S {b : Nat} (h : fV b) : fS (b + 2) := by rcases h with rfl | rfl; exact fS_12; exact fS_19
def fA (b : Nat) : Prop := b = 29 ∨ b = 33
theorem fA_29 : fA 29 := Or.inl rfl
theorem fA_33 : fA 33 := Or.inr rfl
def aaN (b : Nat) : Nat := if b = 29 then 9 else 8
def flC_0 (E : Ev) (r : Nat → Int32) : List Value := [.ref (ea E 2), .ref (ea E 5), .ref (ea E 10), .ref (ea E 17), .ref (ea E 24), .ref (ea E 28), .ref (ea E 30), .ref (ea E 34), .ref (ea E 38), .ref (ea E 41), .ref (ea E 1), .int (r 11), .int (r 12), .int (r 13)]
def flC_2 (E : Ev) (r : Nat → Int32) : List Value := [.ref (ea E 3), .ref (ea E 4)]
def flC_24 (E : Ev) (r : Nat → Int32) : List Value := [.ref (ea E 25), .int (r 1), .ref (ea E 26), .ref (ea E 27), .int (r 4), .int (r 5), .int (r 6), .ref (ea E (r 7).toNatClampNeg), .int (r 8), .int (r 9)]
def flC_28 (E : Ev) (r : Nat → Int32) : List Value := [.ref (ea E (r 0).toNatClampNeg), .int (r 1), .ref (ea E 29)]
def flC_30 (E : Ev) (r : Nat → Int32) : List Value := [.ref (ea E (r 0).toNatClampNeg), .int (r 1), .ref (ea E 31), .ref (ea E 32), .ref (ea E 33)]
def flC_34 (E : Ev) (r : Nat → Int32) : List Value := [.int (r 0), .int (r 1), .ref (ea E 35), .ref (ea E 36), .ref (ea E 37)]
def flC_38 (E : Ev) (r : Nat → Int32) : List Value := [.ref (ea E 39), .ref (ea E 40)]
def flC_41 (E : Ev) (r : Nat → Int32) : List Value := [.int (r 0), .ref (ea E 42), .ref (ea E 43)]
def flM_0 (E : Ev) (r : Nat → Int32) : List Value := [.int (r 0), .int (r 1), .int (r 2), .ref (ea E 1), .ref (ea E 2), .ref (ea E 3), .ref (ea E 4), .ref (ea E 5), .ref (ea E 6), .ref (ea E 7), .ref (ea E 8), .int (r 11), .ref (ea E 9), .int (r 13), .ref (ea E 10), .ref (ea E 11), .ref (ea E 12), .ref (ea E 13), .int (r 18), .int (r 19), .int (r 20), .int (r 21), .int (r 22), .ref (ea E 14), .ref (ea E 15), .ref (ea E 16), .ref (ea E 17), .ref (ea E 18), .ref (ea E 19), .ref (ea E 20), .ref (ea E 21), .ref (ea E 22), .int (r 32), .int (r 33), .int (r 34), .ref (ea E 23), .int (r 36), .int (r 37), .int (r 38), .int (r 39), .int (r 40), .ref (ea E 24), .ref (ea E 25), .ref (ea E 26), .ref (ea E 27), .int (r 45), .ref (ea E 28), .ref (ea E 29), .int (r 48), .ref (ea E 30), .ref (ea E 31), .ref (ea E 32), .int (r 52), .int (r 53), .ref (ea E 33), .ref (ea E 34), .int (r 56), .ref (ea E 35), .int (r 58), .ref (ea E 36), .ref (ea E 37), .ref (ea E 38), .ref (ea E 39)]
def entC (E : Ev) (k : Nat) (r : Nat → Int32) : va_E := match k with
  | 0 => .inr (10, flC_0 E r)
  | 1 => .inl (eI E, (6, .inl r))
  | 2 => .inr (7, flC_2 E r)
  | 3 => .inl (eI E, (30, .inl r))
  | 4 => .inl (eI E, (30, .inl r))
  | 5 => .inr (8, flS E 5 r)
  | 6 => .inl (eI E, (256, .inl r))
  | 7 => .inl (eI E, (256, .inl r))
  | 8 => .inl (eI E, (256, .inl r))
  | 9 => .inl (eI E, (256, .inl r))
  | 10 => .inr (5, flV E 10 r)
  | 11 => .inl (eI E, (7, .inl r))
  | 12 => .inr (8, flS E 12 r)
  | 13 => .inl (eI E, (144, .inl r))
  | 14 => .inl (eI E, (144, .inl r))
  | 15 => .inl (eI E, (144, .inl r))
  | 16 => .inl (eI E, (144, .inl r))
  | 17 => .inr (5, flV E 17 r)
  | 18 => .inl (eI E, (7, .inl r))
  | 19 => .inr (8, flS E 19 r)
  | 20 => .inl (eI E, (144, .inl r))
  | 21 => .inl (eI E, (144, .inl r))
  | 22 => .inl (eI E, (144, .inl r))
  | 23 => .inl (eI E, (144, .inl r))
  | 24 => .inr (4, flC_24 E r)
  | 25 => .inl (eI E, (600, .inl r))
  | 26 => .inl (eI E, (601, .inl r))
  | 27 => .inl (eI E, (601, .inl r))
  | 28 => .inr (2, flC_28 E r)
  | 29 => .inl (eI E, (9, .inl r))
  | 30 => .inr (1, flC_30 E r)
  | 31 => .inl (eI E, (21, .inl r))
  | 32 => .inl (eI E, (21, .inl r))
  | 33 => .inl (eI E, (8, .inl r))
  | 34 => .inr (0, flC_34 E r)
  | 35 => .inl (eI E, (60, .inl r))
  | 36 => .inl (eI E, (60, .inl r))
  | 37 => .inl (eI E, (60, .inl r))
  | 38 => .inr (3, flC_38 E r)
  | 39 => .inl (eI E, (8, .inl r))
  | 40 => .inl (eZ E, (256, .inl r))
  | 41 => .inr (6, flC_41 E r)
  | 42 => .inl (eI E, (288, .inl r))
  | 43 => .inl (eI E, (288, .inl r))
  | 44 => .inr (9, flW E 44 r)
  | 45 => .inl (eI E, (600, .inl r))
  | 46 => .inl (eI E, (16, .inl r))
  | 47 => .inl (eI E, (16, .inl r))
  | 48 => .inl (eI E, (16, .inl r))
  | 49 => .inl (eI E, (16, .inl r))
  | 50 => .inl (eI E, (32, .inl r))
  | 51 => .inr (9, flW E 51 r)
  | 52 => .inl (eI E, (600, .inl r))
  | 53 => .inl (eI E, (16, .inl r))
  | 54 => .inl (eI E, (16, .inl r))
  | 55 => .inl (eI E, (16, .inl r))
  | 56 => .inl (eI E, (16, .inl r))
  | 57 => .inl (eI E, (32, .inl r))
  | 58 => .inr (9, flW E 58 r)
  | 59 => .inl (eI E, (600, .inl r))
  | 60 => .inl (eI E, (16, .inl r))
  | 61 => .inl (eI E, (16, .inl r))
  | 62 => .inl (eI E, (16, .inl r))
  | 63 => .inl (eI E, (16, .inl r))
  | _ => .inl (eI E, (32, .inl r))
def entM (E : Ev) (k : Nat) (r : Nat → Int32) : va_E := match k with
  | 0 => .inr (11, flM_0 E r)
  | 1 => .inl (eI E, (30, .inl r))
  | 2 => .inl (eI E, (30, .inl r))
  | 3 => .inl (eI E, (256, .inl r))
  | 4 => .inl (eI E, (256, .inl r))
  | 5 => .inl (eI E, (288, .inl r))
  | 6 => .inl (eI E, (288, .inl r))
  | 7 => .inl (eI E, (288, .inl r))
  | 8 => .inl (eZ E, (288, .inl r))
  | 9 => .inl (eI E, (2, .inl r))
  | 10 => .inl (eI E, (2, .inl r))
  | 11 => .inl (eI E, (2, .inl r))
  | 12 => .inl (eI E, (2, .inl r))
  | 13 => .inl (eI E, (600, .inl r))
  | 14 => .inl (eI E, (134, .inl r))
  | 15 => .inl (eI E, (3, .inl r))
  | 16 => .inl (eI E, (48, .inl r))
  | 17 => .inl (eI E, (48, .inl r))
  | 18 => .inl (eI E, (48, .inl r))
  | 19 => .inl (eI E, (48, .inl r))
  | 20 => .inl (eI E, (48, .inl r))
  | 21 => .inl (eI E, (1800, .inl r))
  | 22 => .inl (eI E, (1800, .inl r))
  | 23 => .inl (eI E, (40, .inl r))
  | 24 => .inl (eI E, (16, .inl r))
  | 25 => .inl (eI E, (620, .inl r))
  | 26 => .inl (eI E, (256, .inl r))
  | 27 => .inl (eI E, (7, .inl r))
  | 28 => .inl (eI E, (4, .inl r))
  | 29 => .inl (eI E, (37, .inl r))
  | 30 => .inl (eI E, (60, .inl r))
  | 31 => .inl (eI E, (60, .inl r))
  | 32 => .inl (eI E, (60, .inl r))
  | 33 => .inl (eI E, (8, .inl r))
  | 34 => .inl (eI E, (256, .inl r))
  | 35 => .inl (eI E, (6, .inl r))
  | 36 => .inl (eI E, (200, .inl r))
  | 37 => .inl (eI E, (200, .inl r))
  | 38 => .inl (eI E, (200, .inl r))
  | _ => .inl (eZ E, (200, .inl r))
def nP : Bool → Nat
  | true => 65
  | false => 40
def entS : Bool → Ev → Nat → (Nat → Int32) → va_E
  | true => entC
  | false => entM
def lenJS : List Nat := [82, 70, 10]
def bytJS : List (List Int32) := [[119, 104, 101, 110, 32, 111, 114, 32, 97, 110, 100, 32, 110, 111, 116, 32, 100, 111, 119, 110, 32, 100, 114, 121, 32, 115, 111, 117, 112, 32, 115, 119, 101, 97, 116, 32, 119, 101, 116, 32, 119, 97, 116, 101, 114, 32, 111, 114, 101, 32, 108, 97, 121, 101, 114, 32, 115, 111, 114, 116, 32, 114, 97, 105, 110, 32, 99, 108, 111, 99, 107, 32, 115, 104, 97, 107, 101, 110, 32, 108, 105, 116], [119, 104, 101, 110, 32, 111, 114, 32, 97, 110, 100, 32, 110, 111, 116, 32, 108, 111, 97, 100, 32, 115, 116, 111, 112, 32, 116, 101, 115, 116, 32, 115, 97, 105, 100, 32, 99, 97, 110, 32, 97, 103, 101, 32, 114, 97, 105, 110, 32, 100, 97, 121, 32, 108, 111, 97, 100, 101, 100, 32, 115, 119, 101, 108, 108, 32, 112, 111, 114, 116], [59, 43, 45, 42, 47, 40, 41, 60, 61, 62]]
def idxJS : List Nat := [84, 86, 76]
def txtJS : List String := ["when or and not down dry soup sweat wet water ore layer sort rain clock shaken lit", "when or and not load stop test said can age rain day loaded swell port", ";+-*/()<=>"]
def nestD : List (String × Nat × MethodName × String) := [("SoupCargo", 11, ⟨"SoupCargo$Sky", "<init>", "()V"⟩, "SoupCargo"), ("SoupCargo", 27, ⟨"SoupCargo$Ship", "<init>", "()V"⟩, "SoupCargo"), ("SoupCargo", 37, ⟨"SoupCargo$Reader", "<init>", "()V"⟩, "SoupCargo"), ("SoupCargo$Reader", 23, ⟨"SoupCargo$Words", "<init>", "()V"⟩, "SoupCargo"), ("SoupCargo", 44, ⟨"SoupCargo$Laws", "<init>", "()V"⟩, "SoupCargo"), ("SoupCargo$Laws", 9, ⟨"SoupCargo$Words", "<init>", "()V"⟩, "SoupCargo"), ("SoupCargo", 51, ⟨"SoupCargo$Code", "<init>", "()V"⟩, "SoupCargo"), ("SoupCargo$Code", 11, ⟨"SoupCargo$Words", "<init>", "()V"⟩, "SoupCargo"), ("SoupCargo", 58, ⟨"SoupCargo$Cans", "<init>", "()V"⟩, "SoupCargo"), ("SoupCargo", 65, ⟨"SoupCargo$Places", "<init>", "()V"⟩, "SoupCargo"), ("SoupCargo", 72, ⟨"SoupCargo$Ships", "<init>", "()V"⟩, "SoupCargo"), ("SoupCargo$Sky", 18, ⟨"SoupCargo", "within", "(II)Z"⟩, "SoupCargo"), ("SoupCargo$Stacks", 53, ⟨"SoupCargo", "within", "(II)Z"⟩, "SoupCargo"), ("SoupCargo$Reader", 101, ⟨"SoupCargo", "within", "(II)Z"⟩, "SoupCargo"), ("SoupCargo$Words", 37, ⟨"SoupCargo", "within", "(II)Z"⟩, "SoupCargo"), ("SoupCargo$Stacks", 90, ⟨"SoupCargo", "held", "(II)I"⟩, "SoupCargo"), ("SoupCargo$Ship", 68, ⟨"SoupCargo", "columnArm", "(I)I"⟩, "SoupCargo"), ("SoupCargo$Ship", 51, ⟨"SoupCargo", "within", "(II)Z"⟩, "SoupCargo"), ("SoupCargo$Places", 19, ⟨"SoupCargo", "within", "(II)Z"⟩, "SoupCargo"), ("SoupCargo$Cans", 28, ⟨"SoupCargo", "within", "(II)Z"⟩, "SoupCargo"), ("SoupCargo$Ships", 18, ⟨"SoupCargo", "within", "(II)Z"⟩, "SoupCargo")]
theorem gw_e {α : Type} {x : Int32} {K : Nat → Option α} {r : α} (h : gw x K = some r) : ∃ b, x.toNatClampNeg = b ∧ fW b ∧ K b = some r := by
  unfold gw at h
  by_cases c1 : x = 44
  · rw [if_pos c1] at h; exact ⟨44, by rw [c1]; rfl, fW_44, h⟩
  · rw [if_neg c1] at h
    by_cases c2 : x = 51
    · rw [if_pos c2] at h; exact ⟨51, by rw [c2]; rfl, fW_51, h⟩
    · rw [if_neg c2] at h
      by_cases c3 : x = 58
      · rw [if_pos c3] at h; exact ⟨58, by rw [c3]; rfl, fW_58, h⟩
      · rw [if_neg c3] at h; cases h
/-! the world of a side, and which cells it may write -/
def wd (z : Bool) (E : Ev) (σ : St) : va_W := (List.range (nP z)).map (fun k => (ea E k, entS z E k (σ k)))
def aW (z : Bool) (E : Ev) (sz : Nat) : Nat → Prop := fun q => (∃ k, k < nP z ∧ q = ea E k) ∨ sz ≤ q
def jW (z : Bool) (E : Ev) : Prop := ∀ i j, i < nP z → j < nP z → ea E i = ea E j → i = j
def isA (z : Bool) (E : Ev) (P : Nat) (cA : ClassId) (n : Nat) : Prop := P < nP z ∧ ∀ r, entS z E P r = .inl (cA, (n, .inl r))
def isO (z : Bool) (E : Ev) (P ci : Nat) (fl : (Nat → Int32) → List Value) : Prop := P < nP z ∧ ∀ r, entS z E P r = .inr (ci, fl r)
theorem wd_at {z : Bool} {E : Ev} {σ : St} {k : Nat} (hk : k < nP z) : (wd z E σ)[k]? = some (ea E k, entS z E k (σ k)) := by simp [wd, hk]
theorem wd_set {z : Bool} {E : Ev} {σ : St} {k : Nat} (r : Nat → Int32) : (wd z E σ).set k (ea E k, entS z E k r) = wd z E (st_row σ k r) := by
  refine List.ext_getElem? fun j => ?_
  rw [List.getElem?_set]
  by_cases hk : k = j
  · subst hk
    by_cases hl : k < nP z
    · simp [wd, hl, st_row]
    · simp [wd, hl]
  · rw [if_neg hk]
    by_cases hl : j < nP z
    · rw [wd_at hl, wd_at hl]
      simp [st_row, Ne.symm hk]
    · simp [wd, hl]
theorem wd_D {z : Bool} {E : Ev} (hj : jW z E) {A : Nat → Prop} (hA : ∀ k, k < nP z → A (ea E k)) (σ : St) : va_D A (wd z E σ) := by
  have key : ∀ (i : Nat) (q : Nat × va_E), (wd z E σ)[i]? = some q → i < nP z ∧ q.1 = ea E i := by
    intro i q h
    have hi : i < nP z := by
      have h1 := (List.getElem?_eq_some_iff.mp h).1
      simpa [wd] using h1
    rw [wd_at hi] at h
    exact ⟨hi, by rw [← Option.some.inj h]⟩
  refine ⟨fun i j p q hp hq e => ?_, fun k q h => ?_⟩
  · obtain ⟨h1, e1⟩ := key i p hp
    obtain ⟨h2, e2⟩ := key j q hq
    exact hj i j h1 h2 (by rw [← e1, ← e2]; exact e)
  · obtain ⟨h1, e1⟩ := key k q h
    rw [e1]; exact hA k h1
theorem aW_in {z : Bool} {E : Ev} {sz k : Nat} (hk : k < nP z) : aW z E sz (ea E k) := Or.inl ⟨k, hk, rfl⟩
theorem aW_mono {z : Bool} {E : Ev} {a b : Nat} (h : a ≤ b) : ∀ q, aW z E b q → aW z E a q := fun q hq => hq.elim Or.inl (fun w => Or.inr (Nat.le_trans h w))
theorem wd_DW {z : Bool} {E : Ev} (hj : jW z E) (sz : Nat) (σ : St) : va_D (aW z E sz) (wd z E σ) := wd_D hj (fun _ h => aW_in h) σ
/-! what else the class's side takes along: links of nest mates, its String constants -/
def strX (E : Ev) (A : Nat → Prop) (U : State) : Prop := vk_S 3 lenJS bytJS (eK E) (eV E) A U U.heap ∧ (∀ i, i < 3 → vk_R "SoupCargo$Reader" (idxJS.getD i 0) (txtJS.getD i "") (eK E i) U) ∧ va_Z "java/lang/String" "COMPACT_STRINGS" "Z" (.int 1) A U U.heap ∧ va_Zq "jdk/internal/util/Preconditions" "SIOOBE_FORMATTER" "Ljava/util/function/BiFunction;" A U U.heap
def XX : Bool → Ev → (Nat → Prop) → State → Prop
  | true => fun E A U => (∀ q ∈ nestD, va_Nw (.methodLinkNest q.1 q.2.1 q.2.2.1 q.2.2.2) U) ∧ strX E A U
  | false => fun _ _ _ => True
theorem xx_mv {z : Bool} {E : Ev} {A A' : Nat → Prop} {s U : State} {H : Heap} {locs : List Loc} (h : XX z E A s) (hS : va_S A s.heap H locs) (hW : s.WarmedH U.vm) (hH : U.heap = H) (hA : ∀ q, A' q → A q) : XX z E A' U := by
  cases z with
  | false => trivial
  | true =>
    obtain ⟨h1, h2, h3, h4, h5⟩ := h
    refine ⟨fun q hq => va_Nw.warmM hW (h1 q hq), ?_, fun i hi => vk_R.warm hW (h3 i hi), ?_, ?_⟩
    · rw [hH]
      exact ((h2.kept hS.2.1).moved hW.alike).narrow hA
    · rw [hH]
      exact ((h4.kept hS.2.1).moved hW.alike).narrow hA
    · rw [hH]
      exact ((h5.kept hS.2.1).moved hW.alike).narrow hA
theorem xx_bl {z : Bool} {E : Ev} {A : Nat → Prop} {U : State} {g : JFrame} {mk : MethodId} {a : Array Value} (h : XX z E A U) : XX z E A (U.calling g mk a) := by
  cases z with
  | false => trivial
  | true =>
    obtain ⟨h1, h2, h3, h4, h5⟩ := h
    exact ⟨fun q hq => va_Nw.same rfl rfl (h1 q hq), vk_S.moved (u := U) (U := U.calling g mk a) (Vm.Alike.refl U.vm) h2, fun i hi => vk_R.same rfl (h3 i hi), va_Z.moved (u := U) (U := U.calling g mk a) (Vm.Alike.refl U.vm) h4, va_Zq.moved (u := U) (U := U.calling g mk a) (Vm.Alike.refl U.vm) h5⟩
def preW (z : Bool) (E : Ev) (σ : St) (sz : Nat) (U : State) : Prop := U.heap.size = sz ∧ va_P (eD E) vwCl (wd z E σ) U.heap ∧ va_K (eD E) vwCl (eT E) U ∧ XX z E (aW z E sz) U
def postW (z : Bool) (E : Ev) (u : St) (t : State) : Prop := va_P (eD E) vwCl (wd z E u) t.heap
theorem preW_bl {z : Bool} {E : Ev} {σ : St} {sz : Nat} {av : List Value} : FrameBlind (va_Pc av (preW z E σ sz)) := fun a U g mk q => by
  obtain ⟨q0, q1, q2, q3, q4⟩ := q
  exact ⟨q0, q1, q2, va_K.moved (u := U) (U := U.calling g mk a) (Vm.Alike.refl U.vm) q3, xx_bl q4⟩
abbrev QI (z : Bool) (E : Ev) (r : Int32) (σ' : St) (sz : Nat) : Array Value → State → Outcome → State → Prop := va_Qi (fun r2 (u : St) => r2 = r ∧ u = σ') (postW z E) (aW z E sz)
abbrev QV (z : Bool) (E : Ev) (σ' : St) (sz : Nat) : Array Value → State → Outcome → State → Prop := va_Qv (fun (u : St) => u = σ') (postW z E) (aW z E sz)
abbrev QR (z : Bool) (E : Ev) (P : Nat) (σ' : St) (sz : Nat) : Array Value → State → Outcome → State → Prop := va_Qr (fun (u : St) => u = σ') (fun u a t => a = ea E P ∧ postW z E u t) (aW z E sz)
abbrev rmD (k : Nat) : Room := { frames := k, cells := 0, slots := 0, locals := 60 * k }
def CX (z : Bool) (E : Ev) (own : String) (cc : ByteArray) (nL : Nat) (ret : Option FieldType) (p : Program) (s : State) (m : MethodId) (args : Array Value) (meth : Method) (c : Code) : Prop :=
  p.tables.exec = Jvm.exec ∧ c.code = cc ∧ meth.sig.returnType = ret ∧ c.maxLocals = nL ∧ s.vm.findClass own = some m.cls ∧ (∀ w ∈ gT, w.before args s = true) ∧ meth.locks = false ∧ va_K (eD E) vwCl (eT E) s ∧ XX z E (aW z E s.heap.size) s ∧ jW z E
def GW (z : Bool) (l : Launch) (R : Room) (E : Ev) (nL : Nat) (p : Program) (e : Env) (s : State) (m : MethodId) (args : Array Value) (below : List Frame) (meth : Method) (c : Code) (Q : State → Prop) (σ : St) (pc : Nat) (lv : List (Nat × Value)) (st : List Value) : Prop :=
  ∀ (H : Heap) (locs : List Loc) (ls : Array Slot), va_P (eD E) vwCl (wd z E σ) H → va_S (aW z E s.heap.size) s.heap H locs → lv_has ls nL lv → W p l e R s m args below meth c H locs 0 0 Q (F0 m pc ls st)
section RW
variable {z : Bool} {E : Ev} {own : String} {cc : ByteArray} {nL : Nat} {ret : Option FieldType} {p : Program} {l : Launch} {e : Env} {R : Room} {s : State} {m : MethodId} {args : Array Value} {below : List Frame} {meth : Method} {c : Code} {H : Heap} {locs : List Loc} {Q : State → Prop} {pc : Nat} {ls : Array Slot} {rest : List Value} {σ : St}
theorem r_entry {y : MethodName} {rm : Room} {sz : Nat} (Qc : Nat → Array Value → State → Outcome → State → Prop) (hj : jW z E) (hy : plainName y.cls = true) (av : List Value) (hlen : (lg_sl av).length ≤ nL)
    (body : ∀ (p : Program) (e : Env) (s : State) (m : MethodId) (args : Array Value) (below : List Frame) (meth : Method) (c : Code), CX z E y.cls cc nL ret p s m args meth c → GW z l rm E nL p e s m args below meth c (MQ below (Qc s.heap.size) args s 0 0 (aW z E s.heap.size)) σ 0 (lv_args 0 av) []) :
    Met l y (Cond.code y cc nL ret :: gT) rm (va_Pc av (preW z E σ sz)) (Qc sz) 0 0 (aW z E sz) := by
  refine Met.ofW (cc := cc) (maxL := nL) (ret := ret) hy rfl ?_
  intro p e s m args below meth c s₁ B hml hv
  obtain ⟨rfl, hsz, hP, hK, hX⟩ := hv
  have hts := atoms_spec (ws := Cond.code y cc nL ret :: gT) B.pre
  subst hsz
  have hl := lv_entry av (n := nL) hlen
  rw [lg_entry_eq]
  exact body p e s m av.toArray below meth c ⟨B.exec, B.bytes, B.returns, hml, findClass_of_methodNamed B.named, fun w hw => hts w (List.mem_cons_of_mem _ hw), B.notSynchronized, hK, hX, hj⟩ s.heap [] _ hP va_S.rf hl
theorem r_get (C : CX z E own cc nL ret p s m args meth c) (hP : va_P (eD E) vwCl (wd z E σ) H) {P ci index k N : Nat} {fl : (Nat → Int32) → List Value} {Cn : String} {T : u_T} (ho : isO z E P ci fl) (hc : vwCl[ci]? = some (Cn, T, N)) (hin : ∀ w ∈ u_ws Cn T N, w ∈ gT) (hk : k < N) (hlk : Cond.fieldLink own index Cn (T k).2.1 (T k).2.2.1 ∈ gT) (hsm : (T k).1 = Cn) {v : Value} (hv : (fl (σ P))[k]? = some v) (hdg : decode cc pc = .ok (.getfield index, 3))
    (kk : W p l e R s m args below meth c H locs 0 0 Q (F0 m (pc + 3) ls (v :: rest))) : W p l e R s m args below meth c H locs 0 0 Q (F0 m pc ls (.ref (ea E P) :: rest)) := by
  obtain ⟨hx, hb, hr, hml, hown, hts, hlk2, hK, hX, hj⟩ := C
  have he : (wd z E σ)[P]? = some (ea E P, .inr (ci, fl (σ P))) := by rw [wd_at ho.1, ho.2]
  exact va_get (C := Cn) (T := T) (N := N) hx hb hts hin hown hK hP P he hc k hk (hts _ hlk) (fun x h => by rw [hsm] at h; exact h) hv hdg kk
theorem r_put (C : CX z E own cc nL ret p s m args meth c) (hP : va_P (eD E) vwCl (wd z E σ) H) (hS : va_S (aW z E s.heap.size) s.heap H locs) {P ci index k N : Nat} {fl : (Nat → Int32) → List Value} {Cn : String} {T : u_T} (ty0 : Nat → FieldType) (hty : ∀ k, k < N → parseFieldDescriptor (T k).2.2.1 = some (ty0 k)) (hnm : ∀ a, a < N → ∀ b, b < N → a ≠ b → (T a).2.1 ≠ (T b).2.1) (ho : isO z E P ci fl) (hc : vwCl[ci]? = some (Cn, T, N)) (hin : ∀ w ∈ u_ws Cn T N, w ∈ gT) (hk : k < N) (hlk : Cond.fieldLink own index Cn (T k).2.1 (T k).2.2.1 ∈ gT) (hsm : (T k).1 = Cn) (hfin : (T k).2.2.2 = false) {v : Value} {x : Int32} (hset : (fl (σ P)).set k v = fl (upd (σ P) k x)) (hn : narrow (ty0 k) v = v) (hfit : fits (ty0 k) v = true) (hl : k < (fl (σ P)).length) (hdg : decode cc pc = .ok (.putfield index, 3))
    (kk : ∀ (H : Heap) (locs : List Loc), va_P (eD E) vwCl (wd z E (st_put σ P k x)) H → va_S (aW z E s.heap.size) s.heap H locs → W p l e R s m args below meth c H locs 0 0 Q (F0 m (pc + 3) ls rest)) : W p l e R s m args below meth c H locs 0 0 Q (F0 m pc ls (v :: .ref (ea E P) :: rest)) := by
  obtain ⟨hx, hb, hr, hml, hown, hts, hlk2, hK, hX, hj⟩ := C
  have he : (wd z E σ)[P]? = some (ea E P, .inr (ci, fl (σ P))) := by rw [wd_at ho.1, ho.2]
  refine va_put (C := Cn) (T := T) (N := N) (ty := ty0 k) hx hb hts hin ty0 hty hnm hown hK hP (wd_DW hj _ σ) hS P he hc k hk (hts _ hlk) (fun x h => by rw [hsm] at h; exact h) hfin (hty k hk) hn hfit hl hdg (fun H1 locs1 hP1 _ hS1 => kk H1 locs1 ?_ hS1)
  rw [hset, ← ho.2, wd_set] at hP1
  exact hP1
theorem r_ald (C : CX z E own cc nL ret p s m args meth c) (hP : va_P (eD E) vwCl (wd z E σ) H) {P n : Nat} (ho : isA z E P (eI E) n) {i : Int32} (hin : vp_in i n) (hdg : decode cc pc = .ok (.iaload, 1))
    (kk : W p l e R s m args below meth c H locs 0 0 Q (F0 m (pc + 1) ls (.int (σ P i.toNatClampNeg) :: rest))) : W p l e R s m args below meth c H locs 0 0 Q (F0 m pc ls (.int i :: .ref (ea E P) :: rest)) := by
  obtain ⟨hx, hb, hr, hml, hown, hts, hlk2, hK, hX, hj⟩ := C
  have he : (wd z E σ)[P]? = some (ea E P, .inl (eI E, n, .inl (σ P))) := by rw [wd_at ho.1, ho.2]
  exact va_iald hx hb hK hP P 0 he rfl hin hdg kk
theorem r_zald (C : CX z E own cc nL ret p s m args meth c) (hP : va_P (eD E) vwCl (wd z E σ) H) {P n : Nat} (ho : isA z E P (eZ E) n) {i : Int32} (hin : vp_in i n) (hdg : decode cc pc = .ok (.baload, 1))
    (kk : W p l e R s m args below meth c H locs 0 0 Q (F0 m (pc + 1) ls (.int (σ P i.toNatClampNeg) :: rest))) : W p l e R s m args below meth c H locs 0 0 Q (F0 m pc ls (.int i :: .ref (ea E P) :: rest)) := by
  obtain ⟨hx, hb, hr, hml, hown, hts, hlk2, hK, hX, hj⟩ := C
  have he : (wd z E σ)[P]? = some (ea E P, .inl (eZ E, n, .inl (σ P))) := by rw [wd_at ho.1, ho.2]
  exact va_zald hx hb hK hP P 1 he rfl hin hdg kk
theorem r_ast (C : CX z E own cc nL ret p s m args meth c) (hP : va_P (eD E) vwCl (wd z E σ) H) (hS : va_S (aW z E s.heap.size) s.heap H locs) {P n : Nat} (ho : isA z E P (eI E) n) {i x : Int32} (hin : vp_in i n) (hdg : decode cc pc = .ok (.iastore, 1))
    (kk : ∀ (H : Heap) (locs : List Loc), va_P (eD E) vwCl (wd z E (st_put σ P i.toNatClampNeg x)) H → va_S (aW z E s.heap.size) s.heap H locs → W p l e R s m args below meth c H locs 0 0 Q (F0 m (pc + 1) ls rest)) : W p l e R s m args below meth c H locs 0 0 Q (F0 m pc ls (.int x :: .int i :: .ref (ea E P) :: rest)) := by
  obtain ⟨hx, hb, hr, hml, hown, hts, hlk2, hK, hX, hj⟩ := C
  have he : (wd z E σ)[P]? = some (ea E P, .inl (eI E, n, .inl (σ P))) := by rw [wd_at ho.1, ho.2]
  refine va_iast hx hb hK hP (wd_DW hj _ σ) hS P 0 he rfl hin hdg (fun H1 locs1 hP1 _ hS1 => kk H1 locs1 ?_ hS1)
  rw [← ho.2, wd_set] at hP1
  exact hP1
theorem r_zast (C : CX z E own cc nL ret p s m args meth c) (hP : va_P (eD E) vwCl (wd z E σ) H) (hS : va_S (aW z E s.heap.size) s.heap H locs) {P n : Nat} (ho : isA z E P (eZ E) n) {i x : Int32} (hin : vp_in i n) (hdg : decode cc pc = .ok (.bastore, 1))
    (kk : ∀ (H : Heap) (locs : List Loc), va_P (eD E) vwCl (wd z E (st_put σ P i.toNatClampNeg (vp_nar .boolean x))) H → va_S (aW z E s.heap.size) s.heap H locs → W p l e R s m args below meth c H locs 0 0 Q (F0 m (pc + 1) ls rest)) : W p l e R s m args below meth c H locs 0 0 Q (F0 m pc ls (.int x :: .int i :: .ref (ea E P) :: rest)) := by
  obtain ⟨hx, hb, hr, hml, hown, hts, hlk2, hK, hX, hj⟩ := C
  have he : (wd z E σ)[P]? = some (ea E P, .inl (eZ E, n, .inl (σ P))) := by rw [wd_at ho.1, ho.2]
  refine va_zast hx hb hK hP (wd_DW hj _ σ) hS P 1 he rfl hin hdg (fun H1 locs1 hP1 _ hS1 => kk H1 locs1 ?_ hS1)
  rw [← ho.2, wd_set] at hP1
  exact hP1
theorem r_alen (C : CX z E own cc nL ret p s m args meth c) (hP : va_P (eD E) vwCl (wd z E σ) H) {P n : Nat} (ho : isA z E P (eI E) n) {v : Int32} (hv : nI n = v) (hdg : decode cc pc = .ok (.arraylength, 1))
    (kk : W p l e R s m args below meth c H locs 0 0 Q (F0 m (pc + 1) ls (.int v :: rest))) : W p l e R s m args below meth c H locs 0 0 Q (F0 m pc ls (.ref (ea E P) :: rest)) := by
  obtain ⟨hx, hb, hr, hml, hown, hts, hlk2, hK, hX, hj⟩ := C
  have he : (wd z E σ)[P]? = some (ea E P, .inl (eI E, n, .inl (σ P))) := by rw [wd_at ho.1, ho.2]
  exact va_alen hx hb hK hP P 0 he (ty := .int) rfl hv hdg kk
theorem r_iret {σ' : St} {r : Int32} (C : CX z E own cc nL (some .int) p s m args meth c) (hP : va_P (eD E) vwCl (wd z E σ') H) (hS : va_S (aW z E s.heap.size) s.heap H locs) (hdg : decode cc pc = .ok (.ireturn, 1)) : W p l e R s m args below meth c H locs 0 0 (MQ below (QI z E r σ' s.heap.size) args s 0 0 (aW z E s.heap.size)) (F0 m pc ls [.int r]) := by
  obtain ⟨hx, hb, hr, hml, hown, hts, hlocks, hK, hX, hj⟩ := C
  exact W.iret hx hb hr (fun t ht hW => ⟨⟨r, σ', rfl, ⟨rfl, rfl⟩, by show va_P _ _ _ t.heap; rw [ht]; exact hP⟩, hS.F ht⟩) hS.2.2 hdg hlocks
theorem r_zret {σ' : St} {r : Int32} {ty : FieldType} (C : CX z E own cc nL (some ty) p s m args meth c) (hn : narrow ty (.int r) = .int r) (hP : va_P (eD E) vwCl (wd z E σ') H) (hS : va_S (aW z E s.heap.size) s.heap H locs) (hdg : decode cc pc = .ok (.ireturn, 1)) : W p l e R s m args below meth c H locs 0 0 (MQ below (QI z E r σ' s.heap.size) args s 0 0 (aW z E s.heap.size)) (F0 m pc ls [.int r]) := by
  obtain ⟨hx, hb, hr, hml, hown, hts, hlocks, hK, hX, hj⟩ := C
  exact W.zret hx hb hr hn (fun t ht hW => ⟨⟨r, σ', rfl, ⟨rfl, rfl⟩, by show va_P _ _ _ t.heap; rw [ht]; exact hP⟩, hS.F ht⟩) hS.2.2 hdg hlocks
theorem r_vret {σ' : St} (C : CX z E own cc nL none p s m args meth c) (hP : va_P (eD E) vwCl (wd z E σ') H) (hS : va_S (aW z E s.heap.size) s.heap H locs) (hdg : decode cc pc = .ok (.return_, 1)) : W p l e R s m args below meth c H locs 0 0 (MQ below (QV z E σ' s.heap.size) args s 0 0 (aW z E s.heap.size)) (F0 m pc ls []) := by
  obtain ⟨hx, hb, hr, hml, hown, hts, hlocks, hK, hX, hj⟩ := C
  exact W.vret hx hb hr (fun t ht hW => ⟨⟨σ', rfl, rfl, by show va_P _ _ _ t.heap; rw [ht]; exact hP⟩, hS.F ht⟩) hS.2.2 hdg hlocks
theorem r_aret {σ' : St} {P : Nat} {nm : String} (C : CX z E own cc nL (some (.object nm)) p s m args meth c) (hP : va_P (eD E) vwCl (wd z E σ') H) (hS : va_S (aW z E s.heap.size) s.heap H locs) (hdg : decode cc pc = .ok (.areturn, 1)) : W p l e R s m args below meth c H locs 0 0 (MQ below (QR z E P σ' s.heap.size) args s 0 0 (aW z E s.heap.size)) (F0 m pc ls [.ref (ea E P)]) := by
  obtain ⟨hx, hb, hr, hml, hown, hts, hlocks, hK, hX, hj⟩ := C
  exact W.aret hx hb hr (Or.inl ⟨nm, rfl⟩) (Or.inr ⟨_, rfl⟩) (fun t ht hW => ⟨⟨σ', ea E P, rfl, rfl, rfl, by show va_P _ _ _ t.heap; rw [ht]; exact hP⟩, hS.F ht⟩) hS.2.2 hdg hlocks
/-! calls -/
theorem r_pre {As : List Value} (C : CX z E own cc nL ret p s m args meth c) (hP : va_P (eD E) vwCl (wd z E σ) H) (hS : va_S (aW z E s.heap.size) s.heap H locs) : ∀ U : State, U.heap = H → s.WarmedH U.vm → va_Pc As (preW z E σ H.size) As.toArray U := by
  obtain ⟨hx, hb, hr, hml, hown, hts, hlk2, hK, hX, hj⟩ := C
  exact fun U hU hW => ⟨rfl, by rw [hU], by rw [hU]; exact hP, va_K.moved hW.alike hK, xx_mv hX hS hW hU (aW_mono hS.1)⟩
theorem r_recv (C : CX z E own cc nL ret p s m args meth c) (hP : va_P (eD E) vwCl (wd z E σ) H) {P ci N : Nat} {fl : (Nat → Int32) → List Value} {Cn : String} {T : u_T} (ho : isO z E P ci fl) (hc : vwCl[ci]? = some (Cn, T, N)) : ∃ cell : Cell, H[ea E P]? = some cell ∧ cell.vm.isStatics = false ∧ s.vm.findClass Cn = some cell.cls := by
  obtain ⟨hx, hb, hr, hml, hown, hts, hlk2, hK, hX, hj⟩ := C
  have he : (wd z E σ)[P]? = some (ea E P, .inr (ci, fl (σ P))) := by rw [wd_at ho.1, ho.2]
  exact va_recv hK hP hc he
variable {y : MethodName} {bytes : ByteArray} {maxL n index : Nat} {rt : Option FieldType} {rm : Room} {As st0 : List Value} {σ' : St} {r : Int32} {P : Nat} {Cn host : String}
theorem r_cVi {ci N : Nat} {fl : (Nat → Int32) → List Value} {T : u_T} (C : CX z E own cc nL ret p s m args meth c) (hM : Met l y (Cond.code y bytes maxL rt :: gT) rm (va_Pc (.ref (ea E P) :: As) (preW z E σ H.size)) (QI z E r σ' H.size) 0 0 (aW z E H.size)) (ho : isO z E P ci fl) (hc : vwCl[ci]? = some (Cn, T, N)) (hg : GoodIn gT (wsV own index Cn y (Cond.code y bytes maxL rt :: gT))) (hd : y.cls = Cn ∧ y.cls ≠ "java/lang/invoke/MethodHandle" ∧ y.cls ≠ "java/lang/invoke/VarHandle" ∧ (parseMethodDescriptor y.desc).map (fun d => d.parameters.length) = some n) (hR : rm.cells = 0 ∧ rm.slots = 0 ∧ rm.frames + 1 ≤ R.frames ∧ 8 + (maxL + 11) + rm.locals ≤ R.locals) (hn : As.length = n) (hst : st0 = As.reverse ++ .ref (ea E P) :: rest) (hW : (rest.map fun v => v.category).sum ≤ 8) (hdg : decode cc pc = .ok (.invokevirtual index, 3)) (hP : va_P (eD E) vwCl (wd z E σ) H) (hS : va_S (aW z E s.heap.size) s.heap H locs) (hl : ls.size = nL)
    (kk : ∀ (H : Heap) (locs : List Loc), va_P (eD E) vwCl (wd z E σ') H → va_S (aW z E s.heap.size) s.heap H locs → W p l e R s m args below meth c H locs 0 0 Q (F0 m (pc + 3) ls (.int r :: rest))) : W p l e R s m args below meth c H locs 0 0 Q (F0 m pc ls st0) := by
  have C0 := C
  obtain ⟨hx, hb, hr, hml, hown, hts, hlk2, hK, hX, hj⟩ := C
  refine va_calli (va_runV (As := As) (rest := rest) ⟨hx, hb, hml, hown, hts⟩ hM (cwV n hts hg rfl hR.1 hR.2.1 hd hR.2.2) ⟨preW_bl, r_recv C0 hP ho hc, r_pre C0 hP hS⟩ rfl hn hl hst (lv_room hW) hdg ⟨Nat.zero_le _, Nat.zero_le _⟩) hS (fun q _ h => aW_mono hS.1 q h) (aW_mono hS.1) (fun r2 u t H1 locs1 ht hvm hw hB hz1 hk1 hS1 => ?_)
  obtain ⟨rfl, rfl⟩ := hw
  exact kk H1 locs1 (by rw [← ht]; exact hB) hS1
theorem r_cVv {ci N : Nat} {fl : (Nat → Int32) → List Value} {T : u_T} (C : CX z E own cc nL ret p s m args meth c) (hM : Met l y (Cond.code y bytes maxL rt :: gT) rm (va_Pc (.ref (ea E P) :: As) (preW z E σ H.size)) (QV z E σ' H.size) 0 0 (aW z E H.size)) (ho : isO z E P ci fl) (hc : vwCl[ci]? = some (Cn, T, N)) (hg : GoodIn gT (wsV own index Cn y (Cond.code y bytes maxL rt :: gT))) (hd : y.cls = Cn ∧ y.cls ≠ "java/lang/invoke/MethodHandle" ∧ y.cls ≠ "java/lang/invoke/VarHandle" ∧ (parseMethodDescriptor y.desc).map (fun d => d.parameters.length) = some n) (hR : rm.cells = 0 ∧ rm.slots = 0 ∧ rm.frames + 1 ≤ R.frames ∧ 8 + (maxL + 11) + rm.locals ≤ R.locals) (hn : As.length = n) (hst : st0 = As.reverse ++ .ref (ea E P) :: rest) (hW : (rest.map fun v => v.category).sum ≤ 8) (hdg : decode cc pc = .ok (.invokevirtual index, 3)) (hP : va_P (eD E) vwCl (wd z E σ) H) (hS : va_S (aW z E s.heap.size) s.heap H locs) (hl : ls.size = nL)
    (kk : ∀ (H : Heap) (locs : List Loc), va_P (eD E) vwCl (wd z E σ') H → va_S (aW z E s.heap.size) s.heap H locs → W p l e R s m args below meth c H locs 0 0 Q (F0 m (pc + 3) ls rest)) : W p l e R s m args below meth c H locs 0 0 Q (F0 m pc ls st0) := by
  have C0 := C
  obtain ⟨hx, hb, hr, hml, hown, hts, hlk2, hK, hX, hj⟩ := C
  refine va_callv (va_runV (As := As) (rest := rest) ⟨hx, hb, hml, hown, hts⟩ hM (cwV n hts hg rfl hR.1 hR.2.1 hd hR.2.2) ⟨preW_bl, r_recv C0 hP ho hc, r_pre C0 hP hS⟩ rfl hn hl hst (lv_room hW) hdg ⟨Nat.zero_le _, Nat.zero_le _⟩) hS (fun q _ h => aW_mono hS.1 q h) (aW_mono hS.1) (fun u t H1 locs1 ht hvm hw hB hz1 hk1 hS1 => ?_)
  subst hw
  exact kk H1 locs1 (by rw [← ht]; exact hB) hS1
theorem r_cVr {ci N P2 : Nat} {fl : (Nat → Int32) → List Value} {T : u_T} (C : CX z E own cc nL ret p s m args meth c) (hM : Met l y (Cond.code y bytes maxL rt :: gT) rm (va_Pc (.ref (ea E P) :: As) (preW z E σ H.size)) (QR z E P2 σ' H.size) 0 0 (aW z E H.size)) (ho : isO z E P ci fl) (hc : vwCl[ci]? = some (Cn, T, N)) (hg : GoodIn gT (wsV own index Cn y (Cond.code y bytes maxL rt :: gT))) (hd : y.cls = Cn ∧ y.cls ≠ "java/lang/invoke/MethodHandle" ∧ y.cls ≠ "java/lang/invoke/VarHandle" ∧ (parseMethodDescriptor y.desc).map (fun d => d.parameters.length) = some n) (hR : rm.cells = 0 ∧ rm.slots = 0 ∧ rm.frames + 1 ≤ R.frames ∧ 8 + (maxL + 11) + rm.locals ≤ R.locals) (hn : As.length = n) (hst : st0 = As.reverse ++ .ref (ea E P) :: rest) (hW : (rest.map fun v => v.category).sum ≤ 8) (hdg : decode cc pc = .ok (.invokevirtual index, 3)) (hP : va_P (eD E) vwCl (wd z E σ) H) (hS : va_S (aW z E s.heap.size) s.heap H locs) (hl : ls.size = nL)
    (kk : ∀ (H : Heap) (locs : List Loc), va_P (eD E) vwCl (wd z E σ') H → va_S (aW z E s.heap.size) s.heap H locs → W p l e R s m args below meth c H locs 0 0 Q (F0 m (pc + 3) ls (.ref (ea E P2) :: rest))) : W p l e R s m args below meth c H locs 0 0 Q (F0 m pc ls st0) := by
  have C0 := C
  obtain ⟨hx, hb, hr, hml, hown, hts, hlk2, hK, hX, hj⟩ := C
  refine va_callr (va_runV (As := As) (rest := rest) ⟨hx, hb, hml, hown, hts⟩ hM (cwV n hts hg rfl hR.1 hR.2.1 hd hR.2.2) ⟨preW_bl, r_recv C0 hP ho hc, r_pre C0 hP hS⟩ rfl hn hl hst (lv_room hW) hdg ⟨Nat.zero_le _, Nat.zero_le _⟩) hS (fun q _ h => aW_mono hS.1 q h) (aW_mono hS.1) (fun u a t H1 locs1 ht hvm hw hB hz1 hk1 hS1 => ?_)
  subst hw
  obtain ⟨rfl, hB⟩ := hB
  exact kk H1 locs1 (by rw [← ht]; exact hB) hS1
theorem r_cSi (C : CX z E own cc nL ret p s m args meth c) (hM : Met l y (Cond.code y bytes maxL rt :: gT) rm (va_Pc As (preW z E σ H.size)) (QI z E r σ' H.size) 0 0 (aW z E H.size)) (hg : GoodIn gT (va_wsS own index y (Cond.code y bytes maxL rt :: gT))) (hd : y.cls ≠ "java/lang/invoke/MethodHandle" ∧ y.cls ≠ "java/lang/invoke/VarHandle" ∧ (parseMethodDescriptor y.desc).map (fun d => d.parameters.length) = some n) (hR : rm.cells = 0 ∧ rm.slots = 0 ∧ rm.frames + 1 ≤ R.frames ∧ 8 + (maxL + 11) + rm.locals ≤ R.locals) (hn : As.length = n) (hst : st0 = As.reverse ++ rest) (hW : (rest.map fun v => v.category).sum ≤ 8) (hdg : decode cc pc = .ok (.invokestatic index, 3)) (hP : va_P (eD E) vwCl (wd z E σ) H) (hS : va_S (aW z E s.heap.size) s.heap H locs) (hl : ls.size = nL)
    (kk : ∀ (H : Heap) (locs : List Loc), va_P (eD E) vwCl (wd z E σ') H → va_S (aW z E s.heap.size) s.heap H locs → W p l e R s m args below meth c H locs 0 0 Q (F0 m (pc + 3) ls (.int r :: rest))) : W p l e R s m args below meth c H locs 0 0 Q (F0 m pc ls st0) := by
  have C0 := C
  obtain ⟨hx, hb, hr, hml, hown, hts, hlk2, hK, hX, hj⟩ := C
  refine va_calli (va_runS (As := As) (rest := rest) ⟨hx, hb, hml, hown, hts⟩ hM (va_cwS n hts hg rfl hR.1 hR.2.1 hd hR.2.2) ⟨preW_bl, r_pre C0 hP hS⟩ rfl hn hl hst (lv_room hW) hdg ⟨Nat.zero_le _, Nat.zero_le _⟩) hS (fun q _ h => aW_mono hS.1 q h) (aW_mono hS.1) (fun r2 u t H1 locs1 ht hvm hw hB hz1 hk1 hS1 => ?_)
  obtain ⟨rfl, rfl⟩ := hw
  exact kk H1 locs1 (by rw [← ht]; exact hB) hS1
theorem r_cNi (C : CX true E own cc nL ret p s m args meth c) (hM : Met l y (Cond.code y bytes maxL rt :: gT) rm (va_Pc As (preW true E σ H.size)) (QI true E r σ' H.size) 0 0 (aW true E H.size)) (hq : (own, index, y, host) ∈ nestD) (hc : Cond.code y bytes maxL rt ∈ gT) (hi : Cond.initialized y.cls ∈ gT) (hst1 : Cond.static y ∈ gT) (hd : y.cls ≠ "java/lang/invoke/MethodHandle" ∧ y.cls ≠ "java/lang/invoke/VarHandle" ∧ (parseMethodDescriptor y.desc).map (fun d => d.parameters.length) = some n) (hR : rm.cells = 0 ∧ rm.slots = 0 ∧ rm.frames + 1 ≤ R.frames ∧ 8 + (maxL + 11) + rm.locals ≤ R.locals) (hn : As.length = n) (hst : st0 = As.reverse ++ rest) (hW : (rest.map fun v => v.category).sum ≤ 8) (hdg : decode cc pc = .ok (.invokestatic index, 3)) (hP : va_P (eD E) vwCl (wd true E σ) H) (hS : va_S (aW true E s.heap.size) s.heap H locs) (hl : ls.size = nL)
    (kk : ∀ (H : Heap) (locs : List Loc), va_P (eD E) vwCl (wd true E σ') H → va_S (aW true E s.heap.size) s.heap H locs → W p l e R s m args below meth c H locs 0 0 Q (F0 m (pc + 3) ls (.int r :: rest))) : W p l e R s m args below meth c H locs 0 0 Q (F0 m pc ls st0) := by
  have C0 := C
  obtain ⟨hx, hb, hr, hml, hown, hts, hlk2, hK, hX, hj⟩ := C
  refine va_calli (va_runSN (As := As) (rest := rest) (host := host) ⟨hx, hb, hml, hown, hts⟩ hM ⟨va_cnB n hts (gT_C hc) rfl hR.1 hR.2.1 (hX.1 _ hq) (hts _ hi) hd hR.2.2, hts _ hst1, trivial⟩ ⟨preW_bl, r_pre C0 hP hS⟩ rfl hn hl hst (lv_room hW) hdg ⟨Nat.zero_le _, Nat.zero_le _⟩) hS (fun q _ h => aW_mono hS.1 q h) (aW_mono hS.1) (fun r2 u t H1 locs1 ht hvm hw hB hz1 hk1 hS1 => ?_)
  obtain ⟨rfl, rfl⟩ := hw
  exact kk H1 locs1 (by rw [← ht]; exact hB) hS1
end RW
section WR
variable {E : Ev}
theorem aC_1 : isA true E 1 (eI E) 6 := ⟨by decide, fun _ => rfl⟩
theorem aC_3 : isA true E 3 (eI E) 30 := ⟨by decide, fun _ => rfl⟩
theorem aC_4 : isA true E 4 (eI E) 30 := ⟨by decide, fun _ => rfl⟩
theorem aC_25 : isA true E 25 (eI E) 600 := ⟨by decide, fun _ => rfl⟩
theorem aC_26 : isA true E 26 (eI E) 601 := ⟨by decide, fun _ => rfl⟩
theorem aC_27 : isA true E 27 (eI E) 601 := ⟨by decide, fun _ => rfl⟩
theorem aC_29 : isA true E 29 (eI E) 9 := ⟨by decide, fun _ => rfl⟩
theorem aC_31 : isA true E 31 (eI E) 21 := ⟨by decide, fun _ => rfl⟩
theorem aC_32 : isA true E 32 (eI E) 21 := ⟨by decide, fun _ => rfl⟩
theorem aC_33 : isA true E 33 (eI E) 8 := ⟨by decide, fun _ => rfl⟩
theorem aC_35 : isA true E 35 (eI E) 60 := ⟨by decide, fun _ => rfl⟩
theorem aC_36 : isA true E 36 (eI E) 60 := ⟨by decide, fun _ => rfl⟩
theorem aC_37 : isA true E 37 (eI E) 60 := ⟨by decide, fun _ => rfl⟩
theorem aC_39 : isA true E 39 (eI E) 8 := ⟨by decide, fun _ => rfl⟩
theorem aC_40 : isA true E 40 (eZ E) 256 := ⟨by decide, fun _ => rfl⟩
theorem aC_42 : isA true E 42 (eI E) 288 := ⟨by decide, fun _ => rfl⟩
theorem aC_43 : isA true E 43 (eI E) 288 := ⟨by decide, fun _ => rfl⟩
theorem aM_1 : isA false E 1 (eI E) 30 := ⟨by decide, fun _ => rfl⟩
theorem aM_2 : isA false E 2 (eI E) 30 := ⟨by decide, fun _ => rfl⟩
theorem aM_3 : isA false E 3 (eI E) 256 := ⟨by decide, fun _ => rfl⟩
theorem aM_4 : isA false E 4 (eI E) 256 := ⟨by decide, fun _ => rfl⟩
theorem aM_5 : isA false E 5 (eI E) 288 := ⟨by decide, fun _ => rfl⟩
theorem aM_6 : isA false E 6 (eI E) 288 := ⟨by decide, fun _ => rfl⟩
theorem aM_7 : isA false E 7 (eI E) 288 := ⟨by decide, fun _ => rfl⟩
theorem aM_8 : isA false E 8 (eZ E) 288 := ⟨by decide, fun _ => rfl⟩
theorem aM_9 : isA false E 9 (eI E) 2 := ⟨by decide, fun _ => rfl⟩
theorem aM_10 : isA false E 10 (eI E) 2 := ⟨by decide, fun _ => rfl⟩
theorem aM_11 : isA false E 11 (eI E) 2 := ⟨by decide, fun _ => rfl⟩
theorem aM_12 : isA false E 12 (eI E) 2 := ⟨by decide, fun _ => rfl⟩
theorem aM_13 : isA false E 13 (eI E) 600 := ⟨by decide, fun _ => rfl⟩
theorem aM_14 : isA false E 14 (eI E) 134 := ⟨by decide, fun _ => rfl⟩
theorem aM_15 : isA false E 15 (eI E) 3 := ⟨by decide, fun _ => rfl⟩
theorem aM_16 : isA false E 16 (eI E) 48 := ⟨by decide, fun _ => rfl⟩
theorem aM_17 : isA false E 17 (eI E) 48 := ⟨by decide, fun _ => rfl⟩
theorem aM_18 : isA false E 18 (eI E) 48 := ⟨by decide, fun _ => rfl⟩
theorem aM_19 : isA false E 19 (eI E) 48 := ⟨by decide, fun _ => rfl⟩
theorem aM_20 : isA false E 20 (eI E) 48 := ⟨by decide, fun _ => rfl⟩
theorem aM_21 : isA false E 21 (eI E) 1800 := ⟨by decide, fun _ => rfl⟩
theorem aM_22 : isA false E 22 (eI E) 1800 := ⟨by decide, fun _ => rfl⟩
theorem aM_23 : isA false E 23 (eI E) 40 := ⟨by decide, fun _ => rfl⟩
theorem aM_24 : isA false E 24 (eI E) 16 := ⟨by decide, fun _ => rfl⟩
theorem aM_25 : isA false E 25 (eI E) 620 := ⟨by decide, fun _ => rfl⟩
theorem aM_26 : isA false E 26 (eI E) 256 := ⟨by decide, fun _ => rfl⟩
theorem aM_27 : isA false E 27 (eI E) 7 := ⟨by decide, fun _ => rfl⟩
theorem aM_28 : isA false E 28 (eI E) 4 := ⟨by decide, fun _ => rfl⟩
theorem aM_29 : isA false E 29 (eI E) 37 := ⟨by decide, fun _ => rfl⟩
theorem aM_30 : isA false E 30 (eI E) 60 := ⟨by decide, fun _ => rfl⟩
theorem aM_31 : isA false E 31 (eI E) 60 := ⟨by decide, fun _ => rfl⟩
theorem aM_32 : isA false E 32 (eI E) 60 := ⟨by decide, fun _ => rfl⟩
theorem aM_33 : isA false E 33 (eI E) 8 := ⟨by decide, fun _ => rfl⟩
theorem aM_34 : isA false E 34 (eI E) 256 := ⟨by decide, fun _ => rfl⟩
theorem aM_35 : isA false E 35 (eI E) 6 := ⟨by decide, fun _ => rfl⟩
theorem aM_36 : isA false E 36 (eI E) 200 := ⟨by decide, fun _ => rfl⟩
theorem aM_37 : isA false E 37 (eI E) 200 := ⟨by decide, fun _ => rfl⟩
theorem aM_38 : isA false E 38 (eI E) 200 := ⟨by decide, fun _ => rfl⟩
theorem aM_39 : isA false E 39 (eZ E) 200 := ⟨by decide, fun _ => rfl⟩
theorem oC_0 : isO true E 0 10 (flC_0 E) := ⟨by decide, fun _ => rfl⟩
theorem oC_2 : isO true E 2 7 (flC_2 E) := ⟨by decide, fun _ => rfl⟩
theorem oC_24 : isO true E 24 4 (flC_24 E) := ⟨by decide, fun _ => rfl⟩
theorem oC_28 : isO true E 28 2 (flC_28 E) := ⟨by decide, fun _ => rfl⟩
theorem oC_30 : isO true E 30 1 (flC_30 E) := ⟨by decide, fun _ => rfl⟩
theorem oC_34 : isO true E 34 0 (flC_34 E) := ⟨by decide, fun _ => rfl⟩
theorem oC_38 : isO true E 38 3 (flC_38 E) := ⟨by decide, fun _ => rfl⟩
theorem oC_41 : isO true E 41 6 (flC_41 E) := ⟨by decide, fun _ => rfl⟩
theorem oM_0 : isO false E 0 11 (flM_0 E) := ⟨by decide, fun _ => rfl⟩
theorem oS {b : Nat} (h : fS b) : isO true E b 8 (flS E b) := by rcases h with rfl | rfl | rfl <;> exact ⟨by decide, fun _ => rfl⟩
theorem aS_1 {b : Nat} (h : fS b) : isA true E (b + 1) (eI E) (stN b) := by rcases h with rfl | rfl | rfl <;> exact ⟨by decide, fun _ => rfl⟩
theorem aS_2 {b : Nat} (h : fS b) : isA true E (b + 2) (eI E) (stN b) := by rcases h with rfl | rfl | rfl <;> exact ⟨by decide, fun _ => rfl⟩
theorem aS_3 {b : Nat} (h : fS b) : isA true E (b + 3) (eI E) (stN b) := by rcases h with rfl | rfl | rfl <;> exact ⟨by decide, fun _ => rfl⟩
theorem aS_4 {b : Nat} (h : fS b) : isA true E (b + 4) (eI E) (stN b) := by rcases h with rfl | rfl | rfl <;> exact ⟨by decide, fun _ => rfl⟩
theorem oV {b : Nat} (h : fV b) : isO true E b 5 (flV E b) := by rcases h with rfl | rfl <;> exact ⟨by decide, fun _ => rfl⟩
theorem aV_1 {b : Nat} (h : fV b) : isA true E (b + 1) (eI E) 7 := by rcases h with rfl | rfl <;> exact ⟨by decide, fun _ => rfl⟩
theorem oW {b : Nat} (h : fW b) : isO true E b 9 (flW E b) := by rcases h with rfl | rfl | rfl <;> exact ⟨by decide, fun _ => rfl⟩
theorem aW_1 {b : Nat} (h : fW b) : isA true E (b + 1) (eI E) 600 := by rcases h with rfl | rfl | rfl <;> exact ⟨by decide, fun _ => rfl⟩
theorem aW_2 {b : Nat} (h : fW b) : isA true E (b + 2) (eI E) 16 := by rcases h with rfl | rfl | rfl <;> exact ⟨by decide, fun _ => rfl⟩
theorem aW_3 {b : Nat} (h : fW b) : isA true E (b + 3) (eI E) 16 := by rcases h with rfl | rfl | rfl <;> exact ⟨by decide, fun _ => rfl⟩
theorem aW_4 {b : Nat} (h : fW b) : isA true E (b + 4) (eI E) 16 := by rcases h with rfl | rfl | rfl <;> exact ⟨by decide, fun _ => rfl⟩
theorem aW_5 {b : Nat} (h : fW b) : isA true E (b + 5) (eI E) 16 := by rcases h with rfl | rfl | rfl <;> exact ⟨by decide, fun _ => rfl⟩
theorem aW_6 {b : Nat} (h : fW b) : isA true E (b + 6) (eI E) 32 := by rcases h with rfl | rfl | rfl <;> exact ⟨by decide, fun _ => rfl⟩
theorem aAA {b : Nat} (h : fA b) : isA true E b (eI E) (aaN b) := by rcases h with rfl | rfl <;> exact ⟨by decide, fun _ => rfl⟩
theorem sC_0_11 {r : Nat → Int32} {v : Int32} : (flC_0 E r).set 11 (.int v) = flC_0 E (upd r 11 v) := rfl
theorem sC_0_12 {r : Nat → Int32} {v : Int32} : (flC_0 E r).set 12 (.int v) = flC_0 E (upd r 12 v) := rfl
theorem sC_0_13 {r : Nat → Int32} {v : Int32} : (flC_0 E r).set 13 (.int v) = flC_0 E (upd r 13 v) := rfl
theorem sC_24_1 {r : Nat → Int32} {v : Int32} : (flC_24 E r).set 1 (.int v) = flC_24 E (upd r 1 v) := rfl
theorem sC_24_4 {r : Nat → Int32} {v : Int32} : (flC_24 E r).set 4 (.int v) = flC_24 E (upd r 4 v) := rfl
theorem sC_24_5 {r : Nat → Int32} {v : Int32} : (flC_24 E r).set 5 (.int v) = flC_24 E (upd r 5 v) := rfl
theorem sC_24_6 {r : Nat → Int32} {v : Int32} : (flC_24 E r).set 6 (.int v) = flC_24 E (upd r 6 v) := rfl
theorem sC_24_7 {r : Nat → Int32} {b : Nat} (h : fW b) : (flC_24 E r).set 7 (.ref (ea E b)) = flC_24 E (upd r 7 (nI b)) := by rcases h with rfl | rfl | rfl <;> rfl
theorem sC_24_8 {r : Nat → Int32} {v : Int32} : (flC_24 E r).set 8 (.int v) = flC_24 E (upd r 8 v) := rfl
theorem sC_24_9 {r : Nat → Int32} {v : Int32} : (flC_24 E r).set 9 (.int v) = flC_24 E (upd r 9 v) := rfl
theorem sC_28_0 {r : Nat → Int32} {b : Nat} (h : fW b) : (flC_28 E r).set 0 (.ref (ea E b)) = flC_28 E (upd r 0 (nI b)) := by rcases h with rfl | rfl | rfl <;> rfl
theorem sC_28_1 {r : Nat → Int32} {v : Int32} : (flC_28 E r).set 1 (.int v) = flC_28 E (upd r 1 v) := rfl
theorem sC_30_0 {r : Nat → Int32} {b : Nat} (h : fW b) : (flC_30 E r).set 0 (.ref (ea E b)) = flC_30 E (upd r 0 (nI b)) := by rcases h with rfl | rfl | rfl <;> rfl
theorem sC_30_1 {r : Nat → Int32} {v : Int32} : (flC_30 E r).set 1 (.int v) = flC_30 E (upd r 1 v) := rfl
theorem sC_34_0 {r : Nat → Int32} {v : Int32} : (flC_34 E r).set 0 (.int v) = flC_34 E (upd r 0 v) := rfl
theorem sC_34_1 {r : Nat → Int32} {v : Int32} : (flC_34 E r).set 1 (.int v) = flC_34 E (upd r 1 v) := rfl
theorem sC_41_0 {r : Nat → Int32} {v : Int32} : (flC_41 E r).set 0 (.int v) = flC_41 E (upd r 0 v) := rfl
theorem sM_0_0 {r : Nat → Int32} {v : Int32} : (flM_0 E r).set 0 (.int v) = flM_0 E (upd r 0 v) := rfl
theorem sM_0_1 {r : Nat → Int32} {v : Int32} : (flM_0 E r).set 1 (.int v) = flM_0 E (upd r 1 v) := rfl
theorem sM_0_2 {r : Nat → Int32} {v : Int32} : (flM_0 E r).set 2 (.int v) = flM_0 E (upd r 2 v) := rfl
theorem sM_0_11 {r : Nat → Int32} {v : Int32} : (flM_0 E r).set 11 (.int v) = flM_0 E (upd r 11 v) := rfl
theorem sM_0_13 {r : Nat → Int32} {v : Int32} : (flM_0 E r).set 13 (.int v) = flM_0 E (upd r 13 v) := rfl
theorem sM_0_18 {r : Nat → Int32} {v : Int32} : (flM_0 E r).set 18 (.int v) = flM_0 E (upd r 18 v) := rfl
theorem sM_0_19 {r : Nat → Int32} {v : Int32} : (flM_0 E r).set 19 (.int v) = flM_0 E (upd r 19 v) := rfl
theorem sM_0_20 {r : Nat → Int32} {v : Int32} : (flM_0 E r).set 20 (.int v) = flM_0 E (upd r 20 v) := rfl
theorem sM_0_21 {r : Nat → Int32} {v : Int32} : (flM_0 E r).set 21 (.int v) = flM_0 E (upd r 21 v) := rfl
theorem sM_0_22 {r : Nat → Int32} {v : Int32} : (flM_0 E r).set 22 (.int v) = flM_0 E (upd r 22 v) := rfl
theorem sM_0_32 {r : Nat → Int32} {v : Int32} : (flM_0 E r).set 32 (.int v) = flM_0 E (upd r 32 v) := rfl
theorem sM_0_33 {r : Nat → Int32} {v : Int32} : (flM_0 E r).set 33 (.int v) = flM_0 E (upd r 33 v) := rfl
theorem sM_0_34 {r : Nat → Int32} {v : Int32} : (flM_0 E r).set 34 (.int v) = flM_0 E (upd r 34 v) := rfl
theorem sM_0_36 {r : Nat → Int32} {v : Int32} : (flM_0 E r).set 36 (.int v) = flM_0 E (upd r 36 v) := rfl
theorem sM_0_37 {r : Nat → Int32} {v : Int32} : (flM_0 E r).set 37 (.int v) = flM_0 E (upd r 37 v) := rfl
theorem sM_0_38 {r : Nat → Int32} {v : Int32} : (flM_0 E r).set 38 (.int v) = flM_0 E (upd r 38 v) := rfl
theorem sM_0_39 {r : Nat → Int32} {v : Int32} : (flM_0 E r).set 39 (.int v) = flM_0 E (upd r 39 v) := rfl
theorem sM_0_40 {r : Nat → Int32} {v : Int32} : (flM_0 E r).set 40 (.int v) = flM_0 E (upd r 40 v) := rfl
theorem sM_0_45 {r : Nat → Int32} {v : Int32} : (flM_0 E r).set 45 (.int v) = flM_0 E (upd r 45 v) := rfl
theorem sM_0_48 {r : Nat → Int32} {v : Int32} : (flM_0 E r).set 48 (.int v) = flM_0 E (upd r 48 v) := rfl
theorem sM_0_52 {r : Nat → Int32} {v : Int32} : (flM_0 E r).set 52 (.int v) = flM_0 E (upd r 52 v) := rfl
theorem sM_0_53 {r : Nat → Int32} {v : Int32} : (flM_0 E r).set 53 (.int v) = flM_0 E (upd r 53 v) := rfl
theorem sM_0_56 {r : Nat → Int32} {v : Int32} : (flM_0 E r).set 56 (.int v) = flM_0 E (upd r 56 v) := rfl
theorem sM_0_58 {r : Nat → Int32} {v : Int32} : (flM_0 E r).set 58 (.int v) = flM_0 E (upd r 58 v) := rfl
theorem sS_7 {b : Nat} {r : Nat → Int32} {v : Int32} : (flS E b r).set 7 (.int v) = flS E b (upd r 7 v) := rfl
theorem sV_2 {b : Nat} {r : Nat → Int32} {v : Int32} : (flV E b r).set 2 (.int v) = flV E b (upd r 2 v) := rfl
theorem sV_3 {b : Nat} {r : Nat → Int32} {v : Int32} : (flV E b r).set 3 (.int v) = flV E b (upd r 3 v) := rfl
theorem sV_4 {b : Nat} {r : Nat → Int32} {v : Int32} : (flV E b r).set 4 (.int v) = flV E b (upd r 4 v) := rfl
theorem sV_5 {b : Nat} {r : Nat → Int32} {v : Int32} : (flV E b r).set 5 (.int v) = flV E b (upd r 5 v) := rfl
theorem sV_6 {b : Nat} {r : Nat → Int32} {v : Int32} : (flV E b r).set 6 (.int v) = flV E b (upd r 6 v) := rfl
theorem sW_0 {b : Nat} {r : Nat → Int32} {v : Int32} : (flW E b r).set 0 (.int v) = flW E b (upd r 0 v) := rfl
theorem sW_1 {b : Nat} {r : Nat → Int32} {v : Int32} : (flW E b r).set 1 (.int v) = flW E b (upd r 1 v) := rfl
end WR
section RC
variable {z : Bool} {E : Ev} {own : String} {cc : ByteArray} {nL : Nat} {ret : Option FieldType} {p : Program} {l : Launch} {e : Env} {R : Room} {s : State} {m : MethodId} {args : Array Value} {below : List Frame} {meth : Method} {c : Code} {H : Heap} {locs : List Loc} {Q : State → Prop} {pc : Nat} {ls : Array Slot} {rest : List Value} {σ : St}
theorem r_acp (C : CX z E own cc nL ret p s m args meth c) (hP : va_P (eD E) vwCl (wd z E σ) H) (hS : va_S (aW z E s.heap.size) s.heap H locs) (hl : ls.size = nL) {index P0 P1 n0 n1 : Nat} (hlk : Cond.methodLink own index arraycopyName ∈ gT) (hnat : Cond.native arraycopyName ∈ gT) (hst : Cond.static arraycopyName ∈ gT) (hini : Cond.initialized "java/lang/System" ∈ gT) (h0 : isA z E P0 (eI E) n0) (h1 : isA z E P1 (eI E) n1) {sp dp n : Int32} (hc : ¬ (sp < 0 ∨ dp < 0 ∨ n < 0 ∨ n0 < sp.toNatClampNeg + n.toNatClampNeg ∨ n1 < dp.toNatClampNeg + n.toNatClampNeg)) (hframes : 1 ≤ R.frames) (hlocals : (rest.map fun v => v.category).sum + (nativeFrameWords "java/lang/System" "arraycopy" 5 + 11) ≤ R.locals) (hdg : decode cc pc = .ok (.invokestatic index, 3))
    (kk : ∀ (H : Heap) (locs : List Loc), va_P (eD E) vwCl (wd z E (st_row σ P1 (va_cpy (σ P0) (σ P1) sp.toNatClampNeg dp.toNatClampNeg n.toNatClampNeg))) H → va_S (aW z E s.heap.size) s.heap H locs → W p l e R s m args below meth c H locs 0 0 Q (F0 m (pc + 3) ls rest)) : W p l e R s m args below meth c H locs 0 0 Q (F0 m pc ls (.int n :: .int dp :: .ref (ea E P1) :: .int sp :: .ref (ea E P0) :: rest)) := by
  obtain ⟨hx, hb, hr, hml, hown, hts, hlk2, hK, hX, hj⟩ := C
  have he0 : (wd z E σ)[P0]? = some (ea E P0, .inl (eI E, n0, .inl (σ P0))) := by rw [wd_at h0.1, h0.2]
  have he1 : (wd z E σ)[P1]? = some (ea E P1, .inl (eI E, n1, .inl (σ P1))) := by rw [wd_at h1.1, h1.2]
  refine va_copyi (ty := .int) hx hb (hml.trans hl.symm) hown (hts _ hlk) (hts _ hnat) (hts _ hst) (hts _ hini) hK hP (wd_DW hj _ σ) hS P0 P1 0 0 he0 he1 rfl rfl rfl (fun q => hc (Or.inl q)) (fun q => hc (Or.inr (Or.inl q))) (fun q => hc (Or.inr (Or.inr (Or.inl q)))) (Nat.not_lt.mp fun q => hc (Or.inr (Or.inr (Or.inr (Or.inl q))))) (Nat.not_lt.mp fun q => hc (Or.inr (Or.inr (Or.inr (Or.inr q))))) (fun _ _ => rfl) hframes hlocals hdg (fun H1 locs1 hP1 _ hS1 => kk H1 locs1 ?_ hS1)
  rw [← h1.2, wd_set] at hP1
  exact hP1
variable {y : MethodName} {bytes : ByteArray} {maxL n index : Nat} {rt : Option FieldType} {rm : Room} {As st0 : List Value} {σ' : St} {r : Int32} {P : Nat} {Cn host : String}
theorem r_cTi {a : Nat} (C : CX z E own cc nL ret p s m args meth c) (hM : Met l y (Cond.code y bytes maxL rt :: gT) rm (va_Pc (.ref a :: As) (preW z E σ H.size)) (QI z E r σ' H.size) 0 0 (aW z E H.size)) (hv : ∃ cell : Cell, H[a]? = some cell ∧ cell.vm.isStatics = false ∧ s.vm.findClass Cn = some cell.cls) (hg : GoodIn gT (wsV own index Cn y (Cond.code y bytes maxL rt :: gT))) (hd : y.cls = Cn ∧ y.cls ≠ "java/lang/invoke/MethodHandle" ∧ y.cls ≠ "java/lang/invoke/VarHandle" ∧ (parseMethodDescriptor y.desc).map (fun d => d.parameters.length) = some n) (hR : rm.cells = 0 ∧ rm.slots = 0 ∧ rm.frames + 1 ≤ R.frames ∧ 8 + (maxL + 11) + rm.locals ≤ R.locals) (hn : As.length = n) (hst : st0 = As.reverse ++ .ref a :: rest) (hW : (rest.map fun v => v.category).sum ≤ 8) (hdg : decode cc pc = .ok (.invokevirtual index, 3)) (hP : va_P (eD E) vwCl (wd z E σ) H) (hS : va_S (aW z E s.heap.size) s.heap H locs) (hl : ls.size = nL)
    (kk : ∀ (H : Heap) (locs : List Loc), va_P (eD E) vwCl (wd z E σ') H → va_S (aW z E s.heap.size) s.heap H locs → W p l e R s m args below meth c H locs 0 0 Q (F0 m (pc + 3) ls (.int r :: rest))) : W p l e R s m args below meth c H locs 0 0 Q (F0 m pc ls st0) := by
  have C0 := C
  obtain ⟨hx, hb, hr, hml, hown, hts, hlk2, hK, hX, hj⟩ := C
  refine va_calli (va_runV (As := As) (rest := rest) ⟨hx, hb, hml, hown, hts⟩ hM (cwV n hts hg rfl hR.1 hR.2.1 hd hR.2.2) ⟨preW_bl, hv, r_pre C0 hP hS⟩ rfl hn hl hst (lv_room hW) hdg ⟨Nat.zero_le _, Nat.zero_le _⟩) hS (fun q _ h => aW_mono hS.1 q h) (aW_mono hS.1) (fun r2 u t H1 locs1 ht hvm hw hB hz1 hk1 hS1 => ?_)
  obtain ⟨rfl, rfl⟩ := hw
  exact kk H1 locs1 (by rw [← ht]; exact hB) hS1
theorem r_cSv (C : CX z E own cc nL ret p s m args meth c) (hM : Met l y (Cond.code y bytes maxL rt :: gT) rm (va_Pc As (preW z E σ H.size)) (QV z E σ' H.size) 0 0 (aW z E H.size)) (hg : GoodIn gT (va_wsS own index y (Cond.code y bytes maxL rt :: gT))) (hd : y.cls ≠ "java/lang/invoke/MethodHandle" ∧ y.cls ≠ "java/lang/invoke/VarHandle" ∧ (parseMethodDescriptor y.desc).map (fun d => d.parameters.length) = some n) (hR : rm.cells = 0 ∧ rm.slots = 0 ∧ rm.frames + 1 ≤ R.frames ∧ 8 + (maxL + 11) + rm.locals ≤ R.locals) (hn : As.length = n) (hst : st0 = As.reverse ++ rest) (hW : (rest.map fun v => v.category).sum ≤ 8) (hdg : decode cc pc = .ok (.invokestatic index, 3)) (hP : va_P (eD E) vwCl (wd z E σ) H) (hS : va_S (aW z E s.heap.size) s.heap H locs) (hl : ls.size = nL)
    (kk : ∀ (H : Heap) (locs : List Loc), va_P (eD E) vwCl (wd z E σ') H → va_S (aW z E s.heap.size) s.heap H locs → W p l e R s m args below meth c H locs 0 0 Q (F0 m (pc + 3) ls rest)) : W p l e R s m args below meth c H locs 0 0 Q (F0 m pc ls st0) := by
  have C0 := C
  obtain ⟨hx, hb, hr, hml, hown, hts, hlk2, hK, hX, hj⟩ := C
  refine va_callv (va_runS (As := As) (rest := rest) ⟨hx, hb, hml, hown, hts⟩ hM (va_cwS n hts hg rfl hR.1 hR.2.1 hd hR.2.2) ⟨preW_bl, r_pre C0 hP hS⟩ rfl hn hl hst (lv_room hW) hdg ⟨Nat.zero_le _, Nat.zero_le _⟩) hS (fun q _ h => aW_mono hS.1 q h) (aW_mono hS.1) (fun u t H1 locs1 ht hvm hw hB hz1 hk1 hS1 => ?_)
  subst hw
  exact kk H1 locs1 (by rw [← ht]; exact hB) hS1
end RC
def fK (k : Nat) : Prop := k < 3
theorem fK_0 : fK 0 := (by decide : 0 < 3)
theorem fK_1 : fK 1 := (by decide : 1 < 3)
theorem fK_2 : fK 2 := (by decide : 2 < 3)
def fT (_ : Nat) : Prop := True
theorem rmD_le {a b q : Nat} (h : a + 1 ≤ b) (hq : q ≤ 41) : (rmD a).cells = 0 ∧ (rmD a).slots = 0 ∧ (rmD a).frames + 1 ≤ (rmD b).frames ∧ 8 + (q + 11) + (rmD a).locals ≤ (rmD b).locals := ⟨rfl, rfl, h, by show 8 + (q + 11) + 60 * a ≤ 60 * b; omega⟩
def cu {α : Type} (x : Option Unit) (K : Option α) : Option α := x.bind fun _ => K
theorem cu_e {α : Type} {x : Option Unit} {K : Option α} {r : α} (h : cu x K = some r) : x = some () ∧ K = some r := by
  cases x with
  | none => cases h
  | some q => exact ⟨rfl, h⟩
def zc {α : Type} (y : Int32) (K : Option α) : Option α := if (y.toUInt32 % 65536).toInt32 = y then K else none
theorem zc_e {α : Type} {y : Int32} {K : Option α} {r : α} (h : zc y K = some r) : narrow .char (.int y) = .int y ∧ K = some r := by
  unfold zc at h
  by_cases c : (y.toUInt32 % 65536).toInt32 = y
  · rw [if_pos c] at h; exact ⟨by rw [← c]; exact pk_nc _, h⟩
  · rw [if_neg c] at h; cases h
