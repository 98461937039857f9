/-! Pure rows: finite sums over Int, valid pairings of rows with units (12 = none), and their optimality by potentials. -/
def sm (f : Nat → Int) : Nat → Int
  | 0 => 0
  | n + 1 => sm f n + f n
theorem sm_congr {f g : Nat → Int} : ∀ {n : Nat}, (∀ i, i < n → f i = g i) → sm f n = sm g n
  | 0, _ => rfl
  | n + 1, h => by
    have h1 := sm_congr (n := n) (fun i hi => h i (by omega))
    have h2 := h n (by omega)
    show sm f n + f n = sm g n + g n
    omega
theorem sm_le {f g : Nat → Int} : ∀ {n : Nat}, (∀ i, i < n → f i ≤ g i) → sm f n ≤ sm g n
  | 0, _ => Int.le_refl 0
  | n + 1, h => by
    have h1 := sm_le (n := n) (fun i hi => h i (by omega))
    have h2 := h n (by omega)
    show sm f n + f n ≤ sm g n + g n
    omega
theorem sm_add (f g : Nat → Int) : ∀ n : Nat, sm (fun i => f i + g i) n = sm f n + sm g n
  | 0 => rfl
  | n + 1 => by
    have h1 := sm_add f g n
    show sm (fun i => f i + g i) n + (f n + g n) = (sm f n + f n) + (sm g n + g n)
    omega
theorem sm_sub (f g : Nat → Int) : ∀ n : Nat, sm (fun i => f i - g i) n = sm f n - sm g n
  | 0 => rfl
  | n + 1 => by
    have h1 := sm_sub f g n
    show sm (fun i => f i - g i) n + (f n - g n) = (sm f n + f n) - (sm g n + g n)
    omega
theorem sm_zero : ∀ n : Nat, sm (fun _ => 0) n = 0
  | 0 => rfl
  | n + 1 => by
    have h1 := sm_zero n
    show sm (fun _ => 0) n + 0 = 0
    omega
/-- one place of a sum changes -/
theorem sm_upd {f : Nat → Int} {k : Nat} {x : Int} : ∀ {n : Nat}, k < n → sm (fun i => if i = k then x else f i) n = sm f n - f k + x
  | 0, h => absurd h (Nat.not_lt_zero k)
  | n + 1, h => by
    show sm (fun i => if i = k then x else f i) n + (if n = k then x else f n) = sm f n + f n - f k + x
    by_cases e : n = k
    · have h1 : sm (fun i => if i = k then x else f i) n = sm f n := sm_congr (fun i hi => if_neg (by omega))
      rw [h1, if_pos e, e]
      omega
    · have h1 := sm_upd (f := f) (x := x) (n := n) (k := k) (by omega)
      rw [h1, if_neg e]
      omega
/-- an update of a function at one place -/
def fu {α : Type} (f : Nat → α) (k : Nat) (x : α) : Nat → α := fun i => if i = k then x else f i
theorem fu_s {α : Type} {f : Nat → α} {k : Nat} {x : α} : fu f k x k = x := if_pos rfl
theorem fu_n {α : Type} {f : Nat → α} {k i : Nat} {x : α} (h : i ≠ k) : fu f k x i = f i := if_neg h
/-- the sum over the rows that have a unit of what g says of the unit -/
def ug (g : Nat → Int) (P : Nat → Nat) : Nat → Int := fun r => if P r = 12 then 0 else g (P r)
/-- P gives no unit twice -/
def inj (n : Nat) (P : Nat → Nat) : Prop := ∀ r q, r < n → q < n → P r = P q → P r ≠ 12 → r = q
/-- units of a pairing, where g is nowhere above 0: not less than all together -/
theorem ug_ge : ∀ {n : Nat} {g : Nat → Int} {P : Nat → Nat}, inj n P → (∀ r, r < n → P r ≤ 12) → (∀ u, u < 12 → g u ≤ 0) → sm g 12 ≤ sm (ug g P) n
  | 0, g, P, _, _, hg => by
    have h1 : sm g 12 ≤ sm (fun _ => 0) 12 := sm_le hg
    rw [sm_zero] at h1
    exact h1
  | n + 1, g, P, hj, hle, hg => by
    show sm g 12 ≤ sm (ug g P) n + ug g P n
    by_cases e : P n = 12
    · have h1 := ug_ge (n := n) (g := g) (P := P) (fun r q hr hq => hj r q (by omega) (by omega)) (fun r hr => hle r (by omega)) hg
      have h2 : ug g P n = 0 := if_pos e
      omega
    · have h1 := ug_ge (n := n) (g := fun i => if i = P n then 0 else g i) (P := P) (fun r q hr hq => hj r q (by omega) (by omega)) (fun r hr => hle r (by omega)) (fun u hu => by
        show (if u = P n then (0 : Int) else g u) ≤ 0
        by_cases e2 : u = P n
        · rw [if_pos e2]; exact Int.le_refl 0
        · rw [if_neg e2]; exact hg u hu)
      have h3 := hle n (by omega)
      rw [sm_upd (f := g) (k := P n) (x := 0) (n := 12) (by omega)] at h1
      have h2 : ug g P n = g (P n) := if_neg e
      have h4 : sm (ug (fun i => if i = P n then 0 else g i) P) n = sm (ug g P) n := sm_congr (fun r hr => by
        show (if P r = 12 then (0 : Int) else if P r = P n then 0 else g (P r)) = if P r = 12 then 0 else g (P r)
        by_cases e3 : P r = 12
        · rw [if_pos e3, if_pos e3]
        · rw [if_neg e3, if_neg e3]
          by_cases e4 : P r = P n
          · have := hj r n (by omega) (by omega) e4 e3
            omega
          · rw [if_neg e4])
      omega
/-- .. and as much as all together, where g is 0 at the units that are free -/
theorem ug_eq : ∀ {n : Nat} {g : Nat → Int} {P : Nat → Nat}, inj n P → (∀ r, r < n → P r ≤ 12) → (∀ u, u < 12 → (∀ r, r < n → P r ≠ u) → g u = 0) → sm (ug g P) n = sm g 12
  | 0, g, P, _, _, hg => by
    have h1 : sm g 12 = sm (fun _ => 0) 12 := sm_congr (fun u hu => hg u hu (fun r hr => absurd hr (Nat.not_lt_zero r)))
    rw [sm_zero] at h1
    exact h1.symm
  | n + 1, g, P, hj, hle, hg => by
    show sm (ug g P) n + ug g P n = sm g 12
    by_cases e : P n = 12
    · have h1 := ug_eq (n := n) (g := g) (P := P) (fun r q hr hq => hj r q (by omega) (by omega)) (fun r hr => hle r (by omega)) (fun u hu hf => hg u hu (fun r hr => by
        by_cases e1 : r = n
        · rw [e1, e]; omega
        · exact hf r (by omega)))
      have h2 : ug g P n = 0 := if_pos e
      omega
    · have h1 := ug_eq (n := n) (g := fun i => if i = P n then 0 else g i) (P := P) (fun r q hr hq => hj r q (by omega) (by omega)) (fun r hr => hle r (by omega)) (fun u hu hf => by
        show (if u = P n then (0 : Int) else g u) = 0
        by_cases e2 : u = P n
        · rw [if_pos e2]
        · rw [if_neg e2]
          exact hg u hu (fun r hr => by
            by_cases e1 : r = n
            · rw [e1]; exact fun q => e2 q.symm
            · exact hf r (by omega)))
      have h3 := hle n (by omega)
      rw [sm_upd (f := g) (k := P n) (x := 0) (n := 12) (by omega)] at h1
      have h2 : ug g P n = g (P n) := if_neg e
      have h4 : sm (ug (fun i => if i = P n then 0 else g i) P) n = sm (ug g P) n := sm_congr (fun r hr => by
        show (if P r = 12 then (0 : Int) else if P r = P n then 0 else g (P r)) = if P r = 12 then 0 else g (P r)
        by_cases e3 : P r = 12
        · rw [if_pos e3, if_pos e3]
        · rw [if_neg e3, if_neg e3]
          by_cases e4 : P r = P n
          · have := hj r n (by omega) (by omega) e4 e3
            omega
          · rw [if_neg e4])
      omega
/-- a pairing of the rows below n: allowed units, none twice -/
def okP (n : Nat) (al : Nat → Nat → Prop) (P : Nat → Nat) : Prop := (∀ r, r < n → P r = 12 ∨ (P r < 12 ∧ al r (P r))) ∧ inj n P
theorem okP.le {n : Nat} {al : Nat → Nat → Prop} {P : Nat → Nat} (h : okP n al P) : ∀ r, r < n → P r ≤ 12 := fun r hr => by
  rcases h.1 r hr with q | q
  · omega
  · omega
/-- what a pairing weighs, and how many rows have a unit -/
def kyf (w : Nat → Nat → Int) (P : Nat → Nat) : Nat → Int := fun r => if P r = 12 then 0 else w r (P r)
def ky (n : Nat) (w : Nat → Nat → Int) (P : Nat → Nat) : Int := sm (kyf w P) n
def cnf (P : Nat → Nat) : Nat → Int := fun r => if P r = 12 then 0 else 1
def cn (n : Nat) (P : Nat → Nat) : Int := sm (cnf P) n
theorem cn_nonneg (n : Nat) (P : Nat → Nat) : 0 ≤ cn n P := by
  have h : sm (fun _ => 0) n ≤ sm (cnf P) n := sm_le (fun i _ => by
    show (0 : Int) ≤ if P i = 12 then 0 else 1
    by_cases e : P i = 12
    · rw [if_pos e]; omega
    · rw [if_neg e]; omega)
  rw [sm_zero] at h
  exact h
theorem sm_one : ∀ n : Nat, sm (fun _ => 1) n = (n : Int)
  | 0 => rfl
  | n + 1 => by
    have h1 := sm_one n
    show sm (fun _ => 1) n + 1 = ((n + 1 : Nat) : Int)
    omega
theorem cn_le (n : Nat) (P : Nat → Nat) : cn n P ≤ n := by
  have h : sm (cnf P) n ≤ sm (fun _ => 1) n := sm_le (fun i _ => by
    show (if P i = 12 then 0 else 1) ≤ (1 : Int)
    by_cases e : P i = 12
    · rw [if_pos e]; omega
    · rw [if_neg e]; omega)
  rw [sm_one] at h
  exact h
theorem sm_mul (k : Int) (f : Nat → Int) : ∀ n : Nat, sm (fun i => f i * k) n = sm f n * k
  | 0 => by show (0 : Int) = 0 * k; rw [Int.zero_mul]
  | n + 1 => by
    have h1 := sm_mul k f n
    show sm (fun i => f i * k) n + f n * k = (sm f n + f n) * k
    rw [h1, Int.add_mul]
/-- potentials of rows and units: no allowed pair lies below them, the pairing's own lie on them; rows without a unit have 0, free units the top -/
def pot (n : Nat) (al : Nat → Nat → Prop) (w : Nat → Nat → Int) (P : Nat → Nat) (pr pu : Nat → Int) (top : Int) : Prop :=
  (∀ r u, r < n → u < 12 → al r u → pu u ≤ w r u + pr r) ∧ (∀ r, r < n → P r ≠ 12 → w r (P r) + pr r = pu (P r)) ∧
  (∀ r, r < n → 0 ≤ pr r ∧ (P r = 12 → pr r = 0)) ∧ (∀ u, u < 12 → pu u ≤ top ∧ ((∀ r, r < n → P r ≠ u) → pu u = top))
theorem pot_lower {n : Nat} {al : Nat → Nat → Prop} {w : Nat → Nat → Int} {P Q : Nat → Nat} {pr pu : Nat → Int} {top : Int} (h : pot n al w P pr pu top) (hQ : okP n al Q) :
    sm (fun u => pu u - top) 12 + cn n Q * top - sm pr n ≤ ky n w Q := by
  obtain ⟨h1, -, h3, h4⟩ := h
  have a1 : sm (fun r => (ug (fun u => pu u - top) Q r + cnf Q r * top) - pr r) n ≤ ky n w Q := sm_le (fun r hr => by
    show ((if Q r = 12 then 0 else pu (Q r) - top) + (if Q r = 12 then 0 else 1) * top) - pr r ≤ if Q r = 12 then 0 else w r (Q r)
    have := (h3 r hr).1
    by_cases e : Q r = 12
    · rw [if_pos e, if_pos e, if_pos e]; omega
    · rw [if_neg e, if_neg e, if_neg e]
      rcases hQ.1 r hr with q | q
      · exact absurd q e
      · have := h1 r (Q r) hr q.1 q.2
        omega)
  rw [sm_sub, sm_add, sm_mul] at a1
  have a2 := ug_ge (n := n) (g := fun u => pu u - top) (P := Q) hQ.2 hQ.le (fun u hu => by have := (h4 u hu).1; show pu u - top ≤ 0; omega)
  show _ ≤ ky n w Q
  unfold cn
  omega
theorem pot_value {n : Nat} {al : Nat → Nat → Prop} {w : Nat → Nat → Int} {P : Nat → Nat} {pr pu : Nat → Int} {top : Int} (h : pot n al w P pr pu top) (hP : okP n al P) :
    ky n w P = sm (fun u => pu u - top) 12 + cn n P * top - sm pr n := by
  obtain ⟨-, h2, h3, h4⟩ := h
  have a1 : sm (fun r => (ug (fun u => pu u - top) P r + cnf P r * top) - pr r) n = ky n w P := sm_congr (fun r hr => by
    show ((if P r = 12 then 0 else pu (P r) - top) + (if P r = 12 then 0 else 1) * top) - pr r = if P r = 12 then 0 else w r (P r)
    have := (h3 r hr).2
    by_cases e : P r = 12
    · rw [if_pos e, if_pos e, if_pos e]; have := this e; omega
    · rw [if_neg e, if_neg e, if_neg e]
      have := h2 r hr e
      omega)
  rw [sm_sub, sm_add, sm_mul] at a1
  have a2 := ug_eq (n := n) (g := fun u => pu u - top) (P := P) hP.2 hP.le (fun u hu hf => by have := (h4 u hu).2 hf; show pu u - top = 0; omega)
  unfold cn
  omega
/-- with potentials whose top isn't above 0, a pairing is the best of those with no more units -/
theorem pot_best_le {n : Nat} {al : Nat → Nat → Prop} {w : Nat → Nat → Int} {P Q : Nat → Nat} {pr pu : Nat → Int} {top : Int} (h : pot n al w P pr pu top) (hP : okP n al P) (hQ : okP n al Q) (ht : top ≤ 0) (hc : cn n Q ≤ cn n P) : ky n w P ≤ ky n w Q := by
  have a := pot_lower h hQ
  have b := pot_value h hP
  have c : cn n P * top ≤ cn n Q * top := Int.mul_le_mul_of_nonpos_right hc ht
  omega
/-- .. and with one that isn't below 0, of those with no fewer -/
theorem pot_best_ge {n : Nat} {al : Nat → Nat → Prop} {w : Nat → Nat → Int} {P Q : Nat → Nat} {pr pu : Nat → Int} {top : Int} (h : pot n al w P pr pu top) (hP : okP n al P) (hQ : okP n al Q) (ht : 0 ≤ top) (hc : cn n P ≤ cn n Q) : ky n w P ≤ ky n w Q := by
  have a := pot_lower h hQ
  have b := pot_value h hP
  have c : cn n P * top ≤ cn n Q * top := Int.mul_le_mul_of_nonneg_right hc ht
  omega
