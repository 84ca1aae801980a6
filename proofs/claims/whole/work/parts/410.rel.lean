/-! what the two sides have in common -/
/-- a column of the heap: the class counts 8 x + y, the model 8 y + x -/
def sw (k : Nat) : Nat := 8 * (k % 8) + k / 8
def r_now (a b : Int32) : Prop := ∃ N : Nat, N ≤ 719 ∧ a = nI N ∧ b = nI N
def r_up (hi : Nat) (a b : Int32) : Prop := ∃ v : Nat, v ≤ hi ∧ a = nI v ∧ b = nI v
def r_said (a b : Int32) : Prop := a = b ∧ (a = -1 ∨ ∃ v : Nat, v ≤ 99 ∧ a = nI v)
def r_sky (ra sa rb sb : Nat → Int32) : Prop := ∀ d, d < 30 → r_up 9 (ra d) (rb d) ∧ r_up 9 (sa d) (sb d)
/-- the heap: O, W by the class's column and the layer -/
def r_cells (O W : Nat → Nat → Nat) : Prop := (∀ k z, k < 64 → z < 4 → O k z ≤ 99 ∧ W k z ≤ 9999 ∧ (O k z = 0 → W k z = 0)) ∧ ∀ k z, k < 64 → z < 3 → O k z = 0 → O k (z + 1) = 0
def r_pile (o : Nat → Int32) (oa wa sa pa om wm : Nat → Int32) : Prop := (o 0 = 64 ∧ o 1 = 4 ∧ o 2 = 1) ∧ ∃ O W : Nat → Nat → Nat, r_cells O W ∧ ∀ k z, k < 64 → z < 4 → oa (4 * k + z) = nI (O k z) ∧ wa (4 * k + z) = nI (W k z) ∧ sa (4 * k + z) = 0 ∧ pa (4 * k + z) = 0 ∧ om (64 * z + sw k) = nI (O k z) ∧ wm (64 * z + sw k) = nI (W k z)
/-- the holds: cell j of 144, O ore, W water, K shaken, P soup -/
def r_hold (O W K P : Nat → Nat) : Prop := (∀ j, j < 144 → O j ≤ 99 ∧ W j ≤ 9999 ∧ K j ≤ 9999 ∧ P j ≤ 1 ∧ (O j = 0 → W j = 0 ∧ K j = 0 ∧ P j = 0)) ∧ ∀ c z, c < 24 → z < 5 → O (6 * c + z) = 0 → O (6 * c + z + 1) = 0
def r_holds (oa wa ka pa om wm km pm : Nat → Int32) : Prop := ∃ O W K P : Nat → Nat, r_hold O W K P ∧ ∀ j, j < 144 → oa j = nI (O j) ∧ wa j = nI (W j) ∧ ka j = nI (K j) ∧ pa j = nI (P j) ∧ om j = nI (O j) ∧ wm j = nI (W j) ∧ km j = nI (K j) ∧ pm j = nI (P j)
def r_stk (o : Nat → Int32) : Prop := o 0 = 24 ∧ o 1 = 6 ∧ o 2 = 0
def r_gone (a b : Int32) : Prop := a = b ∧ (a = -1 ∨ ∃ N : Nat, N ≤ 719 ∧ a = nI N)
def r_arms (a b : Nat → Int32) : Prop := ∀ k, k < 7 → r_up 99 (a k) (b k)
def r_tape (la lb : Int32) (ta tb : Nat → Int32) : Prop := ∃ n : Nat, n ≤ 600 ∧ la = nI n ∧ lb = nI n ∧ ∀ j, j < n → ∃ v : Nat, v < 256 ∧ ta j = nI v ∧ tb j = nI v
def r_rot (a b c : Int32) : Prop := ∃ x y w : Nat, fW x ∧ fW y ∧ fW w ∧ x ≠ y ∧ x ≠ w ∧ y ≠ w ∧ a = nI x ∧ b = nI y ∧ c = nI w
/-- a cell of the heap as both write it: the class 4 k + z, the model 64 z + sw k -/
def r_cell (a b : Int32) : Prop := ∃ k z : Nat, k < 64 ∧ z < 4 ∧ a = nI (4 * k + z) ∧ b = nI (64 * z + sw k)
def r_cans (now : Int32) (na nb : Int32) (ca wa ha cm wm hm : Nat → Int32) : Prop := ∃ n : Nat, n ≤ 60 ∧ na = nI n ∧ nb = nI n ∧ ∀ i, i < n → r_cell (ca i) (cm i) ∧ r_up 9999 (wa i) (wm i) ∧ ∃ h N : Nat, h ≤ N ∧ N ≤ 719 ∧ now = nI N ∧ ha i = nI h ∧ hm i = nI h
def r_places (a b : Nat → Int32) : Prop := ∀ k, k < 8 → (a k = -1 ∧ b k = -1) ∨ r_cell (a k) (b k)
def r_ports (na nb : Int32) (a b : Nat → Int32) : Prop := ∃ n : Nat, n ≤ 6 ∧ na = nI n ∧ nb = nI n ∧ ∀ i, i < n → ∃ h : Nat, 1 ≤ h ∧ h ≤ 400 ∧ a i = nI h ∧ b i = nI h
/-- how many of the first n rows are q -/
def cntN (q : Nat → Bool) : Nat → Nat
  | 0 => 0
  | n + 1 => cntN q n + (if q n then 1 else 0)
def r_list (na nb : Int32) (al lo h m k l : Nat → Int32) : Prop := ∃ (n : Nat) (hh mm ss ll : Nat → Nat), n ≤ 200 ∧ na = nI n ∧ nb = nI n ∧ (∀ i, i < n → hh i < 8 ∧ mm i < 12 ∧ ss i < 3 ∧ ll i ≤ 1 ∧ h i = nI (hh i) ∧ m i = nI (mm i) ∧ k i = nI (ss i) ∧ l i = nI (ll i)) ∧ ∀ j, j < 288 → al j = nI (cntN (fun i => (hh i * 12 + mm i) * 3 + ss i == j) n) ∧ lo j = nI (cntN (fun i => (hh i * 12 + mm i) * 3 + ss i == j && ll i == 1) n)
/-- what n cells that all fill from the starboard side on come to -/
def worstN (n : Nat) : Nat := 6 * (n / 6) * (6 - n / 6) + (n % 6) * 5 - 2 * (n % 6) * (n / 6)
def r_kept (a : Nat → Int32) : Prop := ∀ n, n ≤ 36 → a n = 0 ∨ a n = nI (worstN n + 1000)
/-! the texts: a program is a list of lines (head, person, what it comes to, when); code is a list of (what, number), as the class numbers them -/
abbrev Cd : Type := List (Nat × Nat)
abbrev Ln : Type := Nat × Nat × Cd × Cd
abbrev Pg : Type := List Ln
def cdLen (q : Ln) : Nat := q.2.2.1.length + q.2.2.2.length
def cdOff (P : Pg) (l : Nat) : Nat := ((P.take l).map cdLen).sum
/-- the model's number of a step -/
def moN (c : Nat) : Nat := if c = 0 then 0 else if c = 1 then 1 else if c = 3 then 9 else if c = 4 then 2 else if c = 5 then 3 else if c = 6 then 4 else if c = 7 then 6 else if c = 8 then 7 else if c = 9 then 8 else c
def xp1 (mp : Nat → Nat) (c : Nat × Nat) : Cd := if c.1 = 2 then [(0, c.2), (5, 0)] else if c.1 = 1 then [(1, mp c.2)] else [(moN c.1, c.2)]
def xp (mp : Nat → Nat) (c : Cd) : Cd := c.flatMap (xp1 mp)
def xpLen (mp : Nat → Nat) (q : Ln) : Nat := (xp mp q.2.2.1).length + (xp mp q.2.2.2).length
def xpOff (mp : Nat → Nat) (P : Pg) (l : Nat) : Nat := ((P.take l).map (xpLen mp)).sum
def mpL (n : Nat) : Nat := n
def mpC (n : Nat) : Nat := if n = 3 then 5 else if n < 3 then 9 + n else 8 + n
/-- the values of a stack of code: types (true: a truth) -/
def ty1 (nv : Nat) (c : Nat × Nat) (t : List Bool) : Option (List Bool) :=
  if c.1 = 0 then (if c.2 ≤ 9999 then some (false :: t) else none)
  else if c.1 = 1 then (if c.2 < nv then some (false :: t) else none)
  else if c.1 = 2 then (match t with | false :: t => if 1 ≤ c.2 ∧ c.2 ≤ 9999 then some (false :: t) else none | _ => none)
  else if c.2 = 0 then
    (if c.1 = 3 then (match t with | true :: t => some (true :: t) | _ => none)
    else if c.1 = 4 ∨ c.1 = 5 ∨ c.1 = 6 then (match t with | false :: false :: t => some (false :: t) | _ => none)
    else if c.1 = 7 ∨ c.1 = 8 ∨ c.1 = 9 then (match t with | false :: false :: t => some (true :: t) | _ => none)
    else if c.1 = 10 ∨ c.1 = 11 then (match t with | true :: true :: t => some (true :: t) | _ => none)
    else none)
  else none
/-- typed, and never deeper than 28 -/
def tyC (nv : Nat) : Cd → List Bool → Option (List Bool)
  | [], t => some t
  | c :: r, t => match ty1 nv c t with
    | none => none
    | some t' => if t'.length ≤ 28 then tyC nv r t' else none
def ev1 (env : Nat → Int32) (c : Nat × Nat) (s : List Int32) : List Int32 :=
  if c.1 = 0 then nI c.2 :: s else if c.1 = 1 then env c.2 :: s else match s with
  | [] => []
  | a :: s => if c.1 = 2 then (a / nI c.2) :: s else if c.1 = 3 then (1 - a) :: s else match s with
    | [] => []
    | x :: s => (if c.1 = 4 then x + a else if c.1 = 5 then x - a else if c.1 = 6 then x * a else if c.1 = 7 then (if x < a then 1 else 0) else if c.1 = 8 then (if x = a then 1 else 0) else if c.1 = 9 then (if a < x then 1 else 0) else if c.1 = 10 then x &&& a else x ||| a) :: s
def evC (env : Nat → Int32) : Cd → List Int32 → List Int32
  | [], s => s
  | c :: r, s => evC env r (ev1 env c s)
/-- what code comes to -/
def evV (env : Nat → Int32) (c : Cd) : Int32 := (evC env c []).headD 0
/-- a line's when -/
def evB (env : Nat → Int32) (q : Ln) : Bool := q.2.2.2 == [] || evV env q.2.2.2 != 0
def okLn (nv nh : Nat) (q : Ln) : Prop := q.1 < nh ∧ q.2.1 < 4 ∧ (nh = 4 → tyC nv q.2.2.1 [] = some [false]) ∧ (nh = 3 → q.2.2.1 = [] ∧ q.2.2.2 ≠ []) ∧ (q.2.2.2 ≠ [] → tyC nv q.2.2.2 [] = some [true])
def okPg (nv nh : Nat) (mp : Nat → Nat) (P : Pg) : Prop := P.length ≤ 16 ∧ cdOff P P.length ≤ 600 ∧ xpOff mp P P.length ≤ 600 ∧ ∀ q ∈ P, okLn nv nh q
def r_words (o st hd ps wh en : Nat → Int32) (P : Pg) : Prop := o 0 = nI P.length ∧ ∀ l q, P[l]? = some q → hd l = nI q.1 ∧ wh l = nI (cdOff P l + q.2.2.1.length) ∧ en l = nI (cdOff P (l + 1)) ∧ (q.2.2.1 = [] → ps l = nI q.2.1) ∧ ∀ i c, (q.2.2.1 ++ q.2.2.2)[i]? = some c → st (cdOff P l + i) = nI (c.1 * 16384 + c.2)
def r_rows (row hb : Nat) (mp : Nat → Nat) (many so wo fr su to op ar : Nat → Int32) (P : Pg) : Prop := many row = nI P.length ∧ ∀ l q, P[l]? = some q → so (16 * row + l) = nI (hb + q.1) ∧ fr (16 * row + l) = nI (xpOff mp P l) ∧ su (16 * row + l) = nI (xpOff mp P l + (xp mp q.2.2.1).length) ∧ to (16 * row + l) = nI (xpOff mp P (l + 1)) ∧ (row = 1 → wo (16 * row + l) = nI q.2.1) ∧ ∀ i c, (xp mp (q.2.2.1 ++ q.2.2.2))[i]? = some c → op (600 * row + xpOff mp P l + i) = nI c.1 ∧ ar (600 * row + xpOff mp P l + i) = nI c.2
def r_wordsAt (σ : St) (b : Nat) (P : Pg) : Prop := r_words (σ b) (σ (b + 1)) (σ (b + 2)) (σ (b + 3)) (σ (b + 4)) (σ (b + 5)) P
def r_rowsAt (τ : St) (row hb : Nat) (mp : Nat → Nat) (P : Pg) : Prop := r_rows row hb mp (τ 15) (τ 16) (τ 17) (τ 18) (τ 19) (τ 20) (τ 21) (τ 22) P
/-- the code on a day of LET -/
def envL (said can age rain : Nat) : Nat → Int32 := fun n => if n = 0 then nI said else if n = 1 then nI can else if n = 2 then nI age else if n = 3 then nI rain else if n = 7 then 1 else 0
def someL (env : Nat → Int32) (Q : Pg) (h : Nat) : Bool := Q.any fun q => q.1 == h && evB env q
def wayB (Q : Pg) (said can age rain : Nat) : Bool := someL (envL said can age rain) Q 0 && !someL (envL said can age rain) Q 1
/-- the ways with a can, in the order said, age, rain: number j is said = j / 100, age = j / 10 % 10, rain = j % 10 -/
def wayJ (Q : Pg) (can j : Nat) : Bool := wayB Q (j / 100) can (j / 10 % 10) (j % 10)
def firstN (q : Nat → Bool) : Nat → Option Nat
  | 0 => none
  | n + 1 => match firstN q n with
    | some j => some j
    | none => if q n then some n else none
def firstV (can : Nat) (o : Option Nat) : Int32 := match o with
  | none => -1
  | some j => nI (1000000 * (j / 100) + 10000 * can + 100 * (j / 10 % 10) + j % 10)
def r_ways (known : Int32) (a b : Nat → Int32) (Q : Pg) : Prop := known = 0 ∨ (known = 1 ∧ ∀ can, can < 21 → a can = nI (cntN (wayJ Q can) 2100) ∧ b can = firstV can (firstN (wayJ Q can) 2100))
def r_txt (σ τ : St) : Prop := ∃ (P Q : Pg) (x y w : Nat), fW x ∧ fW y ∧ fW w ∧ x ≠ y ∧ x ≠ w ∧ y ≠ w ∧ σ 24 7 = nI x ∧ σ 28 0 = nI y ∧ σ 30 0 = nI w ∧ okPg 9 4 mpL P ∧ okPg 8 3 mpC Q ∧ r_wordsAt σ y P ∧ r_rowsAt τ 0 0 mpL P ∧ r_wordsAt σ w Q ∧ r_rowsAt τ 1 4 mpC Q ∧ r_ways (σ 30 1) (σ 31) (σ 32) Q
def wordsM : List Nat := [32, 100, 111, 119, 110, 32, 100, 114, 121, 32, 115, 111, 117, 112, 32, 115, 119, 101, 97, 116, 32, 108, 111, 97, 100, 32, 115, 116, 111, 112, 32, 116, 101, 115, 116, 32, 119, 104, 101, 110, 32, 111, 114, 32, 97, 110, 100, 32, 110, 111, 116, 32, 119, 101, 116, 32, 119, 97, 116, 101, 114, 32, 111, 114, 101, 32, 108, 97, 121, 101, 114, 32, 115, 111, 114, 116, 32, 114, 97, 105, 110, 32, 99, 108, 111, 99, 107, 32, 115, 104, 97, 107, 101, 110, 32, 108, 105, 116, 32, 115, 97, 105, 100, 32, 99, 97, 110, 32, 97, 103, 101, 32, 100, 97, 121, 32, 108, 111, 97, 100, 101, 100, 32, 115, 119, 101, 108, 108, 32, 112, 111, 114, 116, 32]
def r_wordsM (a : Nat → Int32) : Prop := ∀ j, j < 134 → a j = nI (wordsM.getD j 0)
def Rel (σ τ : St) : Prop :=
  r_now (σ 0 12) (τ 0 1) ∧ r_up 2 (σ 28 1) (τ 0 2) ∧ r_said (σ 0 13) (τ 0 53) ∧ r_up 20 (σ 34 0) (τ 0 52) ∧ (σ 24 8 = τ 0 39 ∧ σ 24 9 = τ 0 40) ∧
  r_sky (σ 3) (σ 4) (τ 1) (τ 2) ∧ r_pile (σ 5) (σ 6) (σ 7) (σ 8) (σ 9) (τ 3) (τ 4) ∧ σ 5 7 = τ 0 11 ∧
  r_stk (σ 12) ∧ r_stk (σ 19) ∧ r_holds (σ 13) (σ 14) (σ 15) (σ 16) (τ 5) (τ 6) (τ 7) (τ 8) ∧ σ 12 7 = τ 9 0 ∧
  r_up 1 (σ 10 3) (τ 0 13) ∧ σ 10 4 = τ 10 0 ∧ σ 10 5 = τ 11 0 ∧ r_gone (σ 10 6) (τ 12 0) ∧ r_up 90 (σ 10 2) (τ 0 45) ∧ r_arms (σ 11) (τ 27) ∧
  r_tape (σ 24 1) (τ 0 18) (σ 25) (τ 13) ∧ r_wordsM (τ 14) ∧ r_txt σ τ ∧
  r_cans (σ 0 12) (σ 34 1) (τ 0 48) (σ 35) (σ 36) (σ 37) (τ 30) (τ 32) (τ 31) ∧ r_places (σ 39) (τ 33) ∧ r_ports (σ 0 11) (τ 0 56) (σ 1) (τ 35) ∧
  r_list (σ 41 0) (τ 0 58) (σ 42) (σ 43) (τ 36) (τ 37) (τ 38) (τ 39) ∧ r_kept (τ 29)
