abbrev nS : Nat := 57
def kdS (j : Nat) : Nat := ([0, 2, 3, 3, 2, 5, 2, 2, 2, 2, 2, 2, 2, 2, 2, 2, 2, 2, 2, 3, 2, 2, 2, 2, 0, 2, 6, 4, 4, 4, 4, 4, 4, 4, 4, 4, 4, 6, 4, 4, 4, 4, 4, 4, 4, 4, 4, 4, 2, 2, 2, 3, 4, 4, 2, 4, 4] : List Nat).getD j 9
def lnS (j : Nat) : Nat := ([0, 12, 12, 12, 12, 12, 6, 6, 6, 6, 6, 6, 6, 6, 6, 6, 6, 6, 6, 6, 10, 10, 10, 16, 0, 10, 10, 12, 12, 12, 12, 12, 12, 12, 12, 12, 12, 10, 12, 12, 12, 12, 12, 12, 12, 12, 12, 12, 10, 12, 10, 10, 10, 10, 12, 12, 12] : List Nat).getD j 0
def rbS (j : Nat) : Nat := ([0, 0, 0, 0, 0, 6, 0, 0, 0, 0, 0, 0, 0, 0, 0, 0, 0, 0, 0, 0, 0, 0, 0, 0, 0, 0, 27, 0, 0, 0, 0, 0, 0, 0, 0, 0, 0, 38, 0, 0, 0, 0, 0, 0, 0, 0, 0, 0, 0, 0, 0, 0, 0, 0, 0, 0, 0] : List Nat).getD j 0
def tyS (ca : Nat → ClassId) : List (ClassId × FieldType) := [(ca 0, .int), (ca 1, .boolean), (ca 2, .long), (ca 3, .array .int), (ca 4, .array .long)]
def flS_o0 (ad : Nat → Nat) (f : wF) : List Value := [.int (f 0), .ref (ad 1), .ref (ad 2), .ref (ad 3), .ref (ad 4), .ref (ad 5), .int (f 1), .ref (ad 18), .ref (ad 19), .int (f 2), .ref (ad 20), .ref (ad 21), .ref (ad 22), .ref (ad 23), .int (f 3), .int (f 4), .ref (ad 24)]
def flS_o24 (ad : Nat → Nat) (f : wF) : List Value := [.int (f 5), .int (f 6), .ref (ad 25), .ref (ad 26), .ref (ad 37), .ref (ad 48), .ref (ad 49), .ref (ad 50), .ref (ad 51), .ref (ad 52), .ref (ad 53), .ref (ad 54), .ref (ad 55), .ref (ad 56)]
def kS : wL := fun ad ca f a b j => if j = 0 then .inr (1, flS_o0 ad f) else if j = 24 then .inr (0, flS_o24 ad f) else match kdS j with | 2 => .inl (ca 0, lnS j, .inl (a j)) | 3 => .inl (ca 1, lnS j, .inl (a j)) | 4 => .inl (ca 2, lnS j, .inr (.inl (b j))) | 5 => .inl (ca 3, lnS j, .inr (.inr (.inr (.inr (fun i => if i < lnS j then some (ad (rbS j + i)) else none))))) | _ => .inl (ca 4, lnS j, .inr (.inr (.inr (.inr (fun i => if i < lnS j then some (ad (rbS j + i)) else none)))))
theorem kS_2 {ad : Nat → Nat} {ca : Nat → ClassId} {f : wF} {a : wA} {b : wB} {j : Nat} (h0 : j ≠ 0) (h24 : j ≠ 24) (h : kdS j = 2) : kS ad ca f a b j = .inl (ca 0, lnS j, .inl (a j)) := by
  unfold kS
  rw [if_neg h0, if_neg h24, h]
  rfl
theorem kS_3 {ad : Nat → Nat} {ca : Nat → ClassId} {f : wF} {a : wA} {b : wB} {j : Nat} (h0 : j ≠ 0) (h24 : j ≠ 24) (h : kdS j = 3) : kS ad ca f a b j = .inl (ca 1, lnS j, .inl (a j)) := by
  unfold kS
  rw [if_neg h0, if_neg h24, h]
  rfl
theorem kS_4 {ad : Nat → Nat} {ca : Nat → ClassId} {f : wF} {a : wA} {b : wB} {j : Nat} (h0 : j ≠ 0) (h24 : j ≠ 24) (h : kdS j = 4) : kS ad ca f a b j = .inl (ca 2, lnS j, .inr (.inl (b j))) := by
  unfold kS
  rw [if_neg h0, if_neg h24, h]
  rfl
theorem kS_up2 {ad : Nat → Nat} {ca : Nat → ClassId} {f : wF} {a : wA} {b : wB} {j : Nat} {g : Nat → Int32} (h0 : j ≠ 0) (h24 : j ≠ 24) (h : kdS j = 2) : va_up (kS ad ca f a b) j (.inl (ca 0, lnS j, .inl g)) = kS ad ca f (va_up a j g) b := by
  funext i
  by_cases e : i = j
  · subst e
    rw [va_up_self, kS_2 h0 h24 h, va_up_self]
  · rw [va_up_ne _ _ e]
    unfold kS
    rw [va_up_ne _ _ e]
theorem kS_up3 {ad : Nat → Nat} {ca : Nat → ClassId} {f : wF} {a : wA} {b : wB} {j : Nat} {g : Nat → Int32} (h0 : j ≠ 0) (h24 : j ≠ 24) (h : kdS j = 3) : va_up (kS ad ca f a b) j (.inl (ca 1, lnS j, .inl g)) = kS ad ca f (va_up a j g) b := by
  funext i
  by_cases e : i = j
  · subst e
    rw [va_up_self, kS_3 h0 h24 h, va_up_self]
  · rw [va_up_ne _ _ e]
    unfold kS
    rw [va_up_ne _ _ e]
theorem kS_up4 {ad : Nat → Nat} {ca : Nat → ClassId} {f : wF} {a : wA} {b : wB} {j : Nat} {g : Nat → Int64} (h0 : j ≠ 0) (h24 : j ≠ 24) (h : kdS j = 4) : va_up (kS ad ca f a b) j (.inl (ca 2, lnS j, .inr (.inl g))) = kS ad ca f a (va_up b j g) := by
  funext i
  by_cases e : i = j
  · subst e
    rw [va_up_self, kS_4 h0 h24 h, va_up_self]
  · rw [va_up_ne _ _ e]
    unfold kS
    rw [va_up_ne _ _ e]
theorem kS_o0 {ad : Nat → Nat} {ca : Nat → ClassId} {f : wF} {a : wA} {b : wB} : kS ad ca f a b 0 = .inr (1, flS_o0 ad f) := rfl
theorem kS_u0_0 {ad : Nat → Nat} {ca : Nat → ClassId} {f : wF} {a : wA} {b : wB} {x : Int32} : va_up (kS ad ca f a b) 0 (.inr (1, (flS_o0 ad f).set 0 (.int x))) = kS ad ca (va_up f 0 x) a b := by
  funext i
  by_cases e : i = 0
  · subst e
    rw [va_up_self]
    unfold kS
    simp [flS_o0, va_up]
  · rw [va_up_ne _ _ e]
    by_cases e24 : i = 24
    · subst e24
      unfold kS
      simp [flS_o24, va_up]
    unfold kS
    rw [if_neg e, if_neg e24, if_neg e, if_neg e24]
theorem kS_u0_6 {ad : Nat → Nat} {ca : Nat → ClassId} {f : wF} {a : wA} {b : wB} {x : Int32} : va_up (kS ad ca f a b) 0 (.inr (1, (flS_o0 ad f).set 6 (.int x))) = kS ad ca (va_up f 1 x) a b := by
  funext i
  by_cases e : i = 0
  · subst e
    rw [va_up_self]
    unfold kS
    simp [flS_o0, va_up]
  · rw [va_up_ne _ _ e]
    by_cases e24 : i = 24
    · subst e24
      unfold kS
      simp [flS_o24, va_up]
    unfold kS
    rw [if_neg e, if_neg e24, if_neg e, if_neg e24]
theorem kS_u0_9 {ad : Nat → Nat} {ca : Nat → ClassId} {f : wF} {a : wA} {b : wB} {x : Int32} : va_up (kS ad ca f a b) 0 (.inr (1, (flS_o0 ad f).set 9 (.int x))) = kS ad ca (va_up f 2 x) a b := by
  funext i
  by_cases e : i = 0
  · subst e
    rw [va_up_self]
    unfold kS
    simp [flS_o0, va_up]
  · rw [va_up_ne _ _ e]
    by_cases e24 : i = 24
    · subst e24
      unfold kS
      simp [flS_o24, va_up]
    unfold kS
    rw [if_neg e, if_neg e24, if_neg e, if_neg e24]
theorem kS_u0_14 {ad : Nat → Nat} {ca : Nat → ClassId} {f : wF} {a : wA} {b : wB} {x : Int32} : va_up (kS ad ca f a b) 0 (.inr (1, (flS_o0 ad f).set 14 (.int x))) = kS ad ca (va_up f 3 x) a b := by
  funext i
  by_cases e : i = 0
  · subst e
    rw [va_up_self]
    unfold kS
    simp [flS_o0, va_up]
  · rw [va_up_ne _ _ e]
    by_cases e24 : i = 24
    · subst e24
      unfold kS
      simp [flS_o24, va_up]
    unfold kS
    rw [if_neg e, if_neg e24, if_neg e, if_neg e24]
theorem kS_u0_15 {ad : Nat → Nat} {ca : Nat → ClassId} {f : wF} {a : wA} {b : wB} {x : Int32} : va_up (kS ad ca f a b) 0 (.inr (1, (flS_o0 ad f).set 15 (.int x))) = kS ad ca (va_up f 4 x) a b := by
  funext i
  by_cases e : i = 0
  · subst e
    rw [va_up_self]
    unfold kS
    simp [flS_o0, va_up]
  · rw [va_up_ne _ _ e]
    by_cases e24 : i = 24
    · subst e24
      unfold kS
      simp [flS_o24, va_up]
    unfold kS
    rw [if_neg e, if_neg e24, if_neg e, if_neg e24]
theorem kS_o24 {ad : Nat → Nat} {ca : Nat → ClassId} {f : wF} {a : wA} {b : wB} : kS ad ca f a b 24 = .inr (0, flS_o24 ad f) := rfl
theorem kS_u24_0 {ad : Nat → Nat} {ca : Nat → ClassId} {f : wF} {a : wA} {b : wB} {x : Int32} : va_up (kS ad ca f a b) 24 (.inr (0, (flS_o24 ad f).set 0 (.int x))) = kS ad ca (va_up f 5 x) a b := by
  funext i
  by_cases e : i = 24
  · subst e
    rw [va_up_self]
    unfold kS
    simp [flS_o24, va_up]
  · rw [va_up_ne _ _ e]
    by_cases e0 : i = 0
    · subst e0
      unfold kS
      simp [flS_o0, va_up]
    unfold kS
    rw [if_neg e0, if_neg e, if_neg e0, if_neg e]
theorem kS_u24_1 {ad : Nat → Nat} {ca : Nat → ClassId} {f : wF} {a : wA} {b : wB} {x : Int32} : va_up (kS ad ca f a b) 24 (.inr (0, (flS_o24 ad f).set 1 (.int x))) = kS ad ca (va_up f 6 x) a b := by
  funext i
  by_cases e : i = 24
  · subst e
    rw [va_up_self]
    unfold kS
    simp [flS_o24, va_up]
  · rw [va_up_ne _ _ e]
    by_cases e0 : i = 0
    · subst e0
      unfold kS
      simp [flS_o0, va_up]
    unfold kS
    rw [if_neg e0, if_neg e, if_neg e0, if_neg e]
theorem kS_c1 {ad : Nat → Nat} {ca : Nat → ClassId} {f : wF} {a : wA} {b : wB} : kS ad ca f a b 1 = .inl (ca 0, 12, .inl (a 1)) := kS_2 (j := 1) (by decide) (by decide) rfl
theorem kS_p1 {ad : Nat → Nat} {ca : Nat → ClassId} {f : wF} {a : wA} {b : wB} {g : Nat → Int32} : va_up (kS ad ca f a b) 1 (.inl (ca 0, 12, .inl g)) = kS ad ca f (va_up a 1 g) b := kS_up2 (j := 1) (by decide) (by decide) rfl
theorem kS_c2 {ad : Nat → Nat} {ca : Nat → ClassId} {f : wF} {a : wA} {b : wB} : kS ad ca f a b 2 = .inl (ca 1, 12, .inl (a 2)) := kS_3 (j := 2) (by decide) (by decide) rfl
theorem kS_p2 {ad : Nat → Nat} {ca : Nat → ClassId} {f : wF} {a : wA} {b : wB} {g : Nat → Int32} : va_up (kS ad ca f a b) 2 (.inl (ca 1, 12, .inl g)) = kS ad ca f (va_up a 2 g) b := kS_up3 (j := 2) (by decide) (by decide) rfl
theorem kS_c3 {ad : Nat → Nat} {ca : Nat → ClassId} {f : wF} {a : wA} {b : wB} : kS ad ca f a b 3 = .inl (ca 1, 12, .inl (a 3)) := kS_3 (j := 3) (by decide) (by decide) rfl
theorem kS_p3 {ad : Nat → Nat} {ca : Nat → ClassId} {f : wF} {a : wA} {b : wB} {g : Nat → Int32} : va_up (kS ad ca f a b) 3 (.inl (ca 1, 12, .inl g)) = kS ad ca f (va_up a 3 g) b := kS_up3 (j := 3) (by decide) (by decide) rfl
theorem kS_c4 {ad : Nat → Nat} {ca : Nat → ClassId} {f : wF} {a : wA} {b : wB} : kS ad ca f a b 4 = .inl (ca 0, 12, .inl (a 4)) := kS_2 (j := 4) (by decide) (by decide) rfl
theorem kS_p4 {ad : Nat → Nat} {ca : Nat → ClassId} {f : wF} {a : wA} {b : wB} {g : Nat → Int32} : va_up (kS ad ca f a b) 4 (.inl (ca 0, 12, .inl g)) = kS ad ca f (va_up a 4 g) b := kS_up2 (j := 4) (by decide) (by decide) rfl
theorem kS_c18 {ad : Nat → Nat} {ca : Nat → ClassId} {f : wF} {a : wA} {b : wB} : kS ad ca f a b 18 = .inl (ca 0, 6, .inl (a 18)) := kS_2 (j := 18) (by decide) (by decide) rfl
theorem kS_p18 {ad : Nat → Nat} {ca : Nat → ClassId} {f : wF} {a : wA} {b : wB} {g : Nat → Int32} : va_up (kS ad ca f a b) 18 (.inl (ca 0, 6, .inl g)) = kS ad ca f (va_up a 18 g) b := kS_up2 (j := 18) (by decide) (by decide) rfl
theorem kS_c19 {ad : Nat → Nat} {ca : Nat → ClassId} {f : wF} {a : wA} {b : wB} : kS ad ca f a b 19 = .inl (ca 1, 6, .inl (a 19)) := kS_3 (j := 19) (by decide) (by decide) rfl
theorem kS_p19 {ad : Nat → Nat} {ca : Nat → ClassId} {f : wF} {a : wA} {b : wB} {g : Nat → Int32} : va_up (kS ad ca f a b) 19 (.inl (ca 1, 6, .inl g)) = kS ad ca f (va_up a 19 g) b := kS_up3 (j := 19) (by decide) (by decide) rfl
theorem kS_c20 {ad : Nat → Nat} {ca : Nat → ClassId} {f : wF} {a : wA} {b : wB} : kS ad ca f a b 20 = .inl (ca 0, 10, .inl (a 20)) := kS_2 (j := 20) (by decide) (by decide) rfl
theorem kS_p20 {ad : Nat → Nat} {ca : Nat → ClassId} {f : wF} {a : wA} {b : wB} {g : Nat → Int32} : va_up (kS ad ca f a b) 20 (.inl (ca 0, 10, .inl g)) = kS ad ca f (va_up a 20 g) b := kS_up2 (j := 20) (by decide) (by decide) rfl
theorem kS_c21 {ad : Nat → Nat} {ca : Nat → ClassId} {f : wF} {a : wA} {b : wB} : kS ad ca f a b 21 = .inl (ca 0, 10, .inl (a 21)) := kS_2 (j := 21) (by decide) (by decide) rfl
theorem kS_p21 {ad : Nat → Nat} {ca : Nat → ClassId} {f : wF} {a : wA} {b : wB} {g : Nat → Int32} : va_up (kS ad ca f a b) 21 (.inl (ca 0, 10, .inl g)) = kS ad ca f (va_up a 21 g) b := kS_up2 (j := 21) (by decide) (by decide) rfl
theorem kS_c22 {ad : Nat → Nat} {ca : Nat → ClassId} {f : wF} {a : wA} {b : wB} : kS ad ca f a b 22 = .inl (ca 0, 10, .inl (a 22)) := kS_2 (j := 22) (by decide) (by decide) rfl
theorem kS_p22 {ad : Nat → Nat} {ca : Nat → ClassId} {f : wF} {a : wA} {b : wB} {g : Nat → Int32} : va_up (kS ad ca f a b) 22 (.inl (ca 0, 10, .inl g)) = kS ad ca f (va_up a 22 g) b := kS_up2 (j := 22) (by decide) (by decide) rfl
theorem kS_c23 {ad : Nat → Nat} {ca : Nat → ClassId} {f : wF} {a : wA} {b : wB} : kS ad ca f a b 23 = .inl (ca 0, 16, .inl (a 23)) := kS_2 (j := 23) (by decide) (by decide) rfl
theorem kS_p23 {ad : Nat → Nat} {ca : Nat → ClassId} {f : wF} {a : wA} {b : wB} {g : Nat → Int32} : va_up (kS ad ca f a b) 23 (.inl (ca 0, 16, .inl g)) = kS ad ca f (va_up a 23 g) b := kS_up2 (j := 23) (by decide) (by decide) rfl
theorem kS_c25 {ad : Nat → Nat} {ca : Nat → ClassId} {f : wF} {a : wA} {b : wB} : kS ad ca f a b 25 = .inl (ca 0, 10, .inl (a 25)) := kS_2 (j := 25) (by decide) (by decide) rfl
theorem kS_p25 {ad : Nat → Nat} {ca : Nat → ClassId} {f : wF} {a : wA} {b : wB} {g : Nat → Int32} : va_up (kS ad ca f a b) 25 (.inl (ca 0, 10, .inl g)) = kS ad ca f (va_up a 25 g) b := kS_up2 (j := 25) (by decide) (by decide) rfl
theorem kS_c48 {ad : Nat → Nat} {ca : Nat → ClassId} {f : wF} {a : wA} {b : wB} : kS ad ca f a b 48 = .inl (ca 0, 10, .inl (a 48)) := kS_2 (j := 48) (by decide) (by decide) rfl
theorem kS_p48 {ad : Nat → Nat} {ca : Nat → ClassId} {f : wF} {a : wA} {b : wB} {g : Nat → Int32} : va_up (kS ad ca f a b) 48 (.inl (ca 0, 10, .inl g)) = kS ad ca f (va_up a 48 g) b := kS_up2 (j := 48) (by decide) (by decide) rfl
theorem kS_c49 {ad : Nat → Nat} {ca : Nat → ClassId} {f : wF} {a : wA} {b : wB} : kS ad ca f a b 49 = .inl (ca 0, 12, .inl (a 49)) := kS_2 (j := 49) (by decide) (by decide) rfl
theorem kS_p49 {ad : Nat → Nat} {ca : Nat → ClassId} {f : wF} {a : wA} {b : wB} {g : Nat → Int32} : va_up (kS ad ca f a b) 49 (.inl (ca 0, 12, .inl g)) = kS ad ca f (va_up a 49 g) b := kS_up2 (j := 49) (by decide) (by decide) rfl
theorem kS_c50 {ad : Nat → Nat} {ca : Nat → ClassId} {f : wF} {a : wA} {b : wB} : kS ad ca f a b 50 = .inl (ca 0, 10, .inl (a 50)) := kS_2 (j := 50) (by decide) (by decide) rfl
theorem kS_p50 {ad : Nat → Nat} {ca : Nat → ClassId} {f : wF} {a : wA} {b : wB} {g : Nat → Int32} : va_up (kS ad ca f a b) 50 (.inl (ca 0, 10, .inl g)) = kS ad ca f (va_up a 50 g) b := kS_up2 (j := 50) (by decide) (by decide) rfl
theorem kS_c51 {ad : Nat → Nat} {ca : Nat → ClassId} {f : wF} {a : wA} {b : wB} : kS ad ca f a b 51 = .inl (ca 1, 10, .inl (a 51)) := kS_3 (j := 51) (by decide) (by decide) rfl
theorem kS_p51 {ad : Nat → Nat} {ca : Nat → ClassId} {f : wF} {a : wA} {b : wB} {g : Nat → Int32} : va_up (kS ad ca f a b) 51 (.inl (ca 1, 10, .inl g)) = kS ad ca f (va_up a 51 g) b := kS_up3 (j := 51) (by decide) (by decide) rfl
theorem kS_c52 {ad : Nat → Nat} {ca : Nat → ClassId} {f : wF} {a : wA} {b : wB} : kS ad ca f a b 52 = .inl (ca 2, 10, .inr (.inl (b 52))) := kS_4 (j := 52) (by decide) (by decide) rfl
theorem kS_p52 {ad : Nat → Nat} {ca : Nat → ClassId} {f : wF} {a : wA} {b : wB} {g : Nat → Int64} : va_up (kS ad ca f a b) 52 (.inl (ca 2, 10, .inr (.inl g))) = kS ad ca f a (va_up b 52 g) := kS_up4 (j := 52) (by decide) (by decide) rfl
theorem kS_c53 {ad : Nat → Nat} {ca : Nat → ClassId} {f : wF} {a : wA} {b : wB} : kS ad ca f a b 53 = .inl (ca 2, 10, .inr (.inl (b 53))) := kS_4 (j := 53) (by decide) (by decide) rfl
theorem kS_p53 {ad : Nat → Nat} {ca : Nat → ClassId} {f : wF} {a : wA} {b : wB} {g : Nat → Int64} : va_up (kS ad ca f a b) 53 (.inl (ca 2, 10, .inr (.inl g))) = kS ad ca f a (va_up b 53 g) := kS_up4 (j := 53) (by decide) (by decide) rfl
theorem kS_c54 {ad : Nat → Nat} {ca : Nat → ClassId} {f : wF} {a : wA} {b : wB} : kS ad ca f a b 54 = .inl (ca 0, 12, .inl (a 54)) := kS_2 (j := 54) (by decide) (by decide) rfl
theorem kS_p54 {ad : Nat → Nat} {ca : Nat → ClassId} {f : wF} {a : wA} {b : wB} {g : Nat → Int32} : va_up (kS ad ca f a b) 54 (.inl (ca 0, 12, .inl g)) = kS ad ca f (va_up a 54 g) b := kS_up2 (j := 54) (by decide) (by decide) rfl
theorem kS_c55 {ad : Nat → Nat} {ca : Nat → ClassId} {f : wF} {a : wA} {b : wB} : kS ad ca f a b 55 = .inl (ca 2, 12, .inr (.inl (b 55))) := kS_4 (j := 55) (by decide) (by decide) rfl
theorem kS_p55 {ad : Nat → Nat} {ca : Nat → ClassId} {f : wF} {a : wA} {b : wB} {g : Nat → Int64} : va_up (kS ad ca f a b) 55 (.inl (ca 2, 12, .inr (.inl g))) = kS ad ca f a (va_up b 55 g) := kS_up4 (j := 55) (by decide) (by decide) rfl
theorem kS_c56 {ad : Nat → Nat} {ca : Nat → ClassId} {f : wF} {a : wA} {b : wB} : kS ad ca f a b 56 = .inl (ca 2, 12, .inr (.inl (b 56))) := kS_4 (j := 56) (by decide) (by decide) rfl
theorem kS_p56 {ad : Nat → Nat} {ca : Nat → ClassId} {f : wF} {a : wA} {b : wB} {g : Nat → Int64} : va_up (kS ad ca f a b) 56 (.inl (ca 2, 12, .inr (.inl g))) = kS ad ca f a (va_up b 56 g) := kS_up4 (j := 56) (by decide) (by decide) rfl
theorem kS_c5 {ad : Nat → Nat} {ca : Nat → ClassId} {f : wF} {a : wA} {b : wB} : kS ad ca f a b 5 = .inl (ca 3, 12, .inr (.inr (.inr (.inr (fun i => if i < 12 then some (ad (6 + i)) else none))))) := rfl
theorem rS_secondsOf_k : ∀ r, r < 12 → kdS (6 + r) = 2 ∧ lnS (6 + r) = 6 ∧ 6 + r < 57 := by decide
theorem rS_secondsOf_lt {i : Int32} (h : vp_in i 12) : 6 + i.toNatClampNeg < nS := (rS_secondsOf_k _ (vpin_lt h)).2.2
theorem kS_r_secondsOf {ad : Nat → Nat} {ca : Nat → ClassId} {f : wF} {a : wA} {b : wB} {i : Int32} (h : vp_in i 12) : kS ad ca f a b (6 + i.toNatClampNeg) = .inl (ca 0, 6, .inl (a (6 + i.toNatClampNeg))) := by
  have h9 := vpin_lt h
  obtain ⟨h1, h2, h3⟩ := rS_secondsOf_k _ h9
  rw [kS_2 (j := 6 + i.toNatClampNeg) (by omega) (by omega) h1, h2]
theorem kS_q_secondsOf {ad : Nat → Nat} {ca : Nat → ClassId} {f : wF} {a : wA} {b : wB} {i : Int32} {g : Nat → Int32} (h : vp_in i 12) : va_up (kS ad ca f a b) (6 + i.toNatClampNeg) (.inl (ca 0, 6, .inl g)) = kS ad ca f (va_up a (6 + i.toNatClampNeg) g) b := by
  have h9 := vpin_lt h
  obtain ⟨h1, h2, h3⟩ := rS_secondsOf_k _ h9
  rw [← kS_up2 (j := 6 + i.toNatClampNeg) (g := g) (by omega) (by omega) h1, h2]
theorem kS_c26 {ad : Nat → Nat} {ca : Nat → ClassId} {f : wF} {a : wA} {b : wB} : kS ad ca f a b 26 = .inl (ca 4, 10, .inr (.inr (.inr (.inr (fun i => if i < 10 then some (ad (27 + i)) else none))))) := rfl
theorem rS_cost_k : ∀ r, r < 10 → kdS (27 + r) = 4 ∧ lnS (27 + r) = 12 ∧ 27 + r < 57 := by decide
theorem rS_cost_lt {i : Int32} (h : vp_in i 10) : 27 + i.toNatClampNeg < nS := (rS_cost_k _ (vpin_lt h)).2.2
theorem kS_r_cost {ad : Nat → Nat} {ca : Nat → ClassId} {f : wF} {a : wA} {b : wB} {i : Int32} (h : vp_in i 10) : kS ad ca f a b (27 + i.toNatClampNeg) = .inl (ca 2, 12, .inr (.inl (b (27 + i.toNatClampNeg)))) := by
  have h9 := vpin_lt h
  obtain ⟨h1, h2, h3⟩ := rS_cost_k _ h9
  rw [kS_4 (j := 27 + i.toNatClampNeg) (by omega) (by omega) h1, h2]
theorem kS_q_cost {ad : Nat → Nat} {ca : Nat → ClassId} {f : wF} {a : wA} {b : wB} {i : Int32} {g : Nat → Int64} (h : vp_in i 10) : va_up (kS ad ca f a b) (27 + i.toNatClampNeg) (.inl (ca 2, 12, .inr (.inl g))) = kS ad ca f a (va_up b (27 + i.toNatClampNeg) g) := by
  have h9 := vpin_lt h
  obtain ⟨h1, h2, h3⟩ := rS_cost_k _ h9
  rw [← kS_up4 (j := 27 + i.toNatClampNeg) (g := g) (by omega) (by omega) h1, h2]
theorem kS_c37 {ad : Nat → Nat} {ca : Nat → ClassId} {f : wF} {a : wA} {b : wB} : kS ad ca f a b 37 = .inl (ca 4, 10, .inr (.inr (.inr (.inr (fun i => if i < 10 then some (ad (38 + i)) else none))))) := rfl
theorem rS_tie_k : ∀ r, r < 10 → kdS (38 + r) = 4 ∧ lnS (38 + r) = 12 ∧ 38 + r < 57 := by decide
theorem rS_tie_lt {i : Int32} (h : vp_in i 10) : 38 + i.toNatClampNeg < nS := (rS_tie_k _ (vpin_lt h)).2.2
theorem kS_r_tie {ad : Nat → Nat} {ca : Nat → ClassId} {f : wF} {a : wA} {b : wB} {i : Int32} (h : vp_in i 10) : kS ad ca f a b (38 + i.toNatClampNeg) = .inl (ca 2, 12, .inr (.inl (b (38 + i.toNatClampNeg)))) := by
  have h9 := vpin_lt h
  obtain ⟨h1, h2, h3⟩ := rS_tie_k _ h9
  rw [kS_4 (j := 38 + i.toNatClampNeg) (by omega) (by omega) h1, h2]
theorem kS_q_tie {ad : Nat → Nat} {ca : Nat → ClassId} {f : wF} {a : wA} {b : wB} {i : Int32} {g : Nat → Int64} (h : vp_in i 10) : va_up (kS ad ca f a b) (38 + i.toNatClampNeg) (.inl (ca 2, 12, .inr (.inl g))) = kS ad ca f a (va_up b (38 + i.toNatClampNeg) g) := by
  have h9 := vpin_lt h
  obtain ⟨h1, h2, h3⟩ := rS_tie_k _ h9
  rw [← kS_up4 (j := 38 + i.toNatClampNeg) (g := g) (by omega) (by omega) h1, h2]
abbrev nM : Nat := 13
def kdM (j : Nat) : Nat := ([0, 2, 3, 2, 2, 3, 2, 2, 2, 3, 2, 2, 4] : List Nat).getD j 9
def lnM (j : Nat) : Nat := ([0, 12, 12, 72, 6, 6, 10, 10, 10, 10, 16, 10, 45056] : List Nat).getD j 0
def rbM (j : Nat) : Nat := ([0, 0, 0, 0, 0, 0, 0, 0, 0, 0, 0, 0, 0] : List Nat).getD j 0
def tyM (ca : Nat → ClassId) : List (ClassId × FieldType) := [(ca 0, .int), (ca 1, .boolean), (ca 2, .long), (ca 3, .array .int), (ca 4, .array .long)]
def flM_o0 (ad : Nat → Nat) (f : wF) : List Value := [.int (f 0), .int (f 1), .ref (ad 1), .ref (ad 2), .ref (ad 3), .int (f 2), .ref (ad 4), .ref (ad 5), .int (f 3), .ref (ad 6), .ref (ad 7), .ref (ad 8), .ref (ad 9), .ref (ad 10), .int (f 4), .int (f 5), .ref (ad 11), .int (f 6), .ref (ad 12)]
def kM : wL := fun ad ca f a b j => if j = 0 then .inr (2, flM_o0 ad f) else match kdM j with | 2 => .inl (ca 0, lnM j, .inl (a j)) | 3 => .inl (ca 1, lnM j, .inl (a j)) | 4 => .inl (ca 2, lnM j, .inr (.inl (b j))) | 5 => .inl (ca 3, lnM j, .inr (.inr (.inr (.inr (fun i => if i < lnM j then some (ad (rbM j + i)) else none))))) | _ => .inl (ca 4, lnM j, .inr (.inr (.inr (.inr (fun i => if i < lnM j then some (ad (rbM j + i)) else none)))))
theorem kM_2 {ad : Nat → Nat} {ca : Nat → ClassId} {f : wF} {a : wA} {b : wB} {j : Nat} (h0 : j ≠ 0) (h : kdM j = 2) : kM ad ca f a b j = .inl (ca 0, lnM j, .inl (a j)) := by
  unfold kM
  rw [if_neg h0, h]
  rfl
theorem kM_3 {ad : Nat → Nat} {ca : Nat → ClassId} {f : wF} {a : wA} {b : wB} {j : Nat} (h0 : j ≠ 0) (h : kdM j = 3) : kM ad ca f a b j = .inl (ca 1, lnM j, .inl (a j)) := by
  unfold kM
  rw [if_neg h0, h]
  rfl
theorem kM_4 {ad : Nat → Nat} {ca : Nat → ClassId} {f : wF} {a : wA} {b : wB} {j : Nat} (h0 : j ≠ 0) (h : kdM j = 4) : kM ad ca f a b j = .inl (ca 2, lnM j, .inr (.inl (b j))) := by
  unfold kM
  rw [if_neg h0, h]
  rfl
theorem kM_up2 {ad : Nat → Nat} {ca : Nat → ClassId} {f : wF} {a : wA} {b : wB} {j : Nat} {g : Nat → Int32} (h0 : j ≠ 0) (h : kdM j = 2) : va_up (kM ad ca f a b) j (.inl (ca 0, lnM j, .inl g)) = kM ad ca f (va_up a j g) b := by
  funext i
  by_cases e : i = j
  · subst e
    rw [va_up_self, kM_2 h0 h, va_up_self]
  · rw [va_up_ne _ _ e]
    unfold kM
    rw [va_up_ne _ _ e]
theorem kM_up3 {ad : Nat → Nat} {ca : Nat → ClassId} {f : wF} {a : wA} {b : wB} {j : Nat} {g : Nat → Int32} (h0 : j ≠ 0) (h : kdM j = 3) : va_up (kM ad ca f a b) j (.inl (ca 1, lnM j, .inl g)) = kM ad ca f (va_up a j g) b := by
  funext i
  by_cases e : i = j
  · subst e
    rw [va_up_self, kM_3 h0 h, va_up_self]
  · rw [va_up_ne _ _ e]
    unfold kM
    rw [va_up_ne _ _ e]
theorem kM_up4 {ad : Nat → Nat} {ca : Nat → ClassId} {f : wF} {a : wA} {b : wB} {j : Nat} {g : Nat → Int64} (h0 : j ≠ 0) (h : kdM j = 4) : va_up (kM ad ca f a b) j (.inl (ca 2, lnM j, .inr (.inl g))) = kM ad ca f a (va_up b j g) := by
  funext i
  by_cases e : i = j
  · subst e
    rw [va_up_self, kM_4 h0 h, va_up_self]
  · rw [va_up_ne _ _ e]
    unfold kM
    rw [va_up_ne _ _ e]
theorem kM_o0 {ad : Nat → Nat} {ca : Nat → ClassId} {f : wF} {a : wA} {b : wB} : kM ad ca f a b 0 = .inr (2, flM_o0 ad f) := rfl
theorem kM_u0_0 {ad : Nat → Nat} {ca : Nat → ClassId} {f : wF} {a : wA} {b : wB} {x : Int32} : va_up (kM ad ca f a b) 0 (.inr (2, (flM_o0 ad f).set 0 (.int x))) = kM ad ca (va_up f 0 x) a b := by
  funext i
  by_cases e : i = 0
  · subst e
    rw [va_up_self]
    unfold kM
    simp [flM_o0, va_up]
  · rw [va_up_ne _ _ e]
    unfold kM
    rw [if_neg e, if_neg e]
theorem kM_u0_1 {ad : Nat → Nat} {ca : Nat → ClassId} {f : wF} {a : wA} {b : wB} {x : Int32} : va_up (kM ad ca f a b) 0 (.inr (2, (flM_o0 ad f).set 1 (.int x))) = kM ad ca (va_up f 1 x) a b := by
  funext i
  by_cases e : i = 0
  · subst e
    rw [va_up_self]
    unfold kM
    simp [flM_o0, va_up]
  · rw [va_up_ne _ _ e]
    unfold kM
    rw [if_neg e, if_neg e]
theorem kM_u0_5 {ad : Nat → Nat} {ca : Nat → ClassId} {f : wF} {a : wA} {b : wB} {x : Int32} : va_up (kM ad ca f a b) 0 (.inr (2, (flM_o0 ad f).set 5 (.int x))) = kM ad ca (va_up f 2 x) a b := by
  funext i
  by_cases e : i = 0
  · subst e
    rw [va_up_self]
    unfold kM
    simp [flM_o0, va_up]
  · rw [va_up_ne _ _ e]
    unfold kM
    rw [if_neg e, if_neg e]
theorem kM_u0_8 {ad : Nat → Nat} {ca : Nat → ClassId} {f : wF} {a : wA} {b : wB} {x : Int32} : va_up (kM ad ca f a b) 0 (.inr (2, (flM_o0 ad f).set 8 (.int x))) = kM ad ca (va_up f 3 x) a b := by
  funext i
  by_cases e : i = 0
  · subst e
    rw [va_up_self]
    unfold kM
    simp [flM_o0, va_up]
  · rw [va_up_ne _ _ e]
    unfold kM
    rw [if_neg e, if_neg e]
theorem kM_u0_14 {ad : Nat → Nat} {ca : Nat → ClassId} {f : wF} {a : wA} {b : wB} {x : Int32} : va_up (kM ad ca f a b) 0 (.inr (2, (flM_o0 ad f).set 14 (.int x))) = kM ad ca (va_up f 4 x) a b := by
  funext i
  by_cases e : i = 0
  · subst e
    rw [va_up_self]
    unfold kM
    simp [flM_o0, va_up]
  · rw [va_up_ne _ _ e]
    unfold kM
    rw [if_neg e, if_neg e]
theorem kM_u0_15 {ad : Nat → Nat} {ca : Nat → ClassId} {f : wF} {a : wA} {b : wB} {x : Int32} : va_up (kM ad ca f a b) 0 (.inr (2, (flM_o0 ad f).set 15 (.int x))) = kM ad ca (va_up f 5 x) a b := by
  funext i
  by_cases e : i = 0
  · subst e
    rw [va_up_self]
    unfold kM
    simp [flM_o0, va_up]
  · rw [va_up_ne _ _ e]
    unfold kM
    rw [if_neg e, if_neg e]
theorem kM_u0_17 {ad : Nat → Nat} {ca : Nat → ClassId} {f : wF} {a : wA} {b : wB} {x : Int32} : va_up (kM ad ca f a b) 0 (.inr (2, (flM_o0 ad f).set 17 (.int x))) = kM ad ca (va_up f 6 x) a b := by
  funext i
  by_cases e : i = 0
  · subst e
    rw [va_up_self]
    unfold kM
    simp [flM_o0, va_up]
  · rw [va_up_ne _ _ e]
    unfold kM
    rw [if_neg e, if_neg e]
theorem kM_c1 {ad : Nat → Nat} {ca : Nat → ClassId} {f : wF} {a : wA} {b : wB} : kM ad ca f a b 1 = .inl (ca 0, 12, .inl (a 1)) := kM_2 (j := 1) (by decide) rfl
theorem kM_p1 {ad : Nat → Nat} {ca : Nat → ClassId} {f : wF} {a : wA} {b : wB} {g : Nat → Int32} : va_up (kM ad ca f a b) 1 (.inl (ca 0, 12, .inl g)) = kM ad ca f (va_up a 1 g) b := kM_up2 (j := 1) (by decide) rfl
theorem kM_c2 {ad : Nat → Nat} {ca : Nat → ClassId} {f : wF} {a : wA} {b : wB} : kM ad ca f a b 2 = .inl (ca 1, 12, .inl (a 2)) := kM_3 (j := 2) (by decide) rfl
theorem kM_p2 {ad : Nat → Nat} {ca : Nat → ClassId} {f : wF} {a : wA} {b : wB} {g : Nat → Int32} : va_up (kM ad ca f a b) 2 (.inl (ca 1, 12, .inl g)) = kM ad ca f (va_up a 2 g) b := kM_up3 (j := 2) (by decide) rfl
theorem kM_c3 {ad : Nat → Nat} {ca : Nat → ClassId} {f : wF} {a : wA} {b : wB} : kM ad ca f a b 3 = .inl (ca 0, 72, .inl (a 3)) := kM_2 (j := 3) (by decide) rfl
theorem kM_p3 {ad : Nat → Nat} {ca : Nat → ClassId} {f : wF} {a : wA} {b : wB} {g : Nat → Int32} : va_up (kM ad ca f a b) 3 (.inl (ca 0, 72, .inl g)) = kM ad ca f (va_up a 3 g) b := kM_up2 (j := 3) (by decide) rfl
theorem kM_c4 {ad : Nat → Nat} {ca : Nat → ClassId} {f : wF} {a : wA} {b : wB} : kM ad ca f a b 4 = .inl (ca 0, 6, .inl (a 4)) := kM_2 (j := 4) (by decide) rfl
theorem kM_p4 {ad : Nat → Nat} {ca : Nat → ClassId} {f : wF} {a : wA} {b : wB} {g : Nat → Int32} : va_up (kM ad ca f a b) 4 (.inl (ca 0, 6, .inl g)) = kM ad ca f (va_up a 4 g) b := kM_up2 (j := 4) (by decide) rfl
theorem kM_c5 {ad : Nat → Nat} {ca : Nat → ClassId} {f : wF} {a : wA} {b : wB} : kM ad ca f a b 5 = .inl (ca 1, 6, .inl (a 5)) := kM_3 (j := 5) (by decide) rfl
theorem kM_p5 {ad : Nat → Nat} {ca : Nat → ClassId} {f : wF} {a : wA} {b : wB} {g : Nat → Int32} : va_up (kM ad ca f a b) 5 (.inl (ca 1, 6, .inl g)) = kM ad ca f (va_up a 5 g) b := kM_up3 (j := 5) (by decide) rfl
theorem kM_c6 {ad : Nat → Nat} {ca : Nat → ClassId} {f : wF} {a : wA} {b : wB} : kM ad ca f a b 6 = .inl (ca 0, 10, .inl (a 6)) := kM_2 (j := 6) (by decide) rfl
theorem kM_p6 {ad : Nat → Nat} {ca : Nat → ClassId} {f : wF} {a : wA} {b : wB} {g : Nat → Int32} : va_up (kM ad ca f a b) 6 (.inl (ca 0, 10, .inl g)) = kM ad ca f (va_up a 6 g) b := kM_up2 (j := 6) (by decide) rfl
theorem kM_c7 {ad : Nat → Nat} {ca : Nat → ClassId} {f : wF} {a : wA} {b : wB} : kM ad ca f a b 7 = .inl (ca 0, 10, .inl (a 7)) := kM_2 (j := 7) (by decide) rfl
theorem kM_p7 {ad : Nat → Nat} {ca : Nat → ClassId} {f : wF} {a : wA} {b : wB} {g : Nat → Int32} : va_up (kM ad ca f a b) 7 (.inl (ca 0, 10, .inl g)) = kM ad ca f (va_up a 7 g) b := kM_up2 (j := 7) (by decide) rfl
theorem kM_c8 {ad : Nat → Nat} {ca : Nat → ClassId} {f : wF} {a : wA} {b : wB} : kM ad ca f a b 8 = .inl (ca 0, 10, .inl (a 8)) := kM_2 (j := 8) (by decide) rfl
theorem kM_p8 {ad : Nat → Nat} {ca : Nat → ClassId} {f : wF} {a : wA} {b : wB} {g : Nat → Int32} : va_up (kM ad ca f a b) 8 (.inl (ca 0, 10, .inl g)) = kM ad ca f (va_up a 8 g) b := kM_up2 (j := 8) (by decide) rfl
theorem kM_c9 {ad : Nat → Nat} {ca : Nat → ClassId} {f : wF} {a : wA} {b : wB} : kM ad ca f a b 9 = .inl (ca 1, 10, .inl (a 9)) := kM_3 (j := 9) (by decide) rfl
theorem kM_p9 {ad : Nat → Nat} {ca : Nat → ClassId} {f : wF} {a : wA} {b : wB} {g : Nat → Int32} : va_up (kM ad ca f a b) 9 (.inl (ca 1, 10, .inl g)) = kM ad ca f (va_up a 9 g) b := kM_up3 (j := 9) (by decide) rfl
theorem kM_c10 {ad : Nat → Nat} {ca : Nat → ClassId} {f : wF} {a : wA} {b : wB} : kM ad ca f a b 10 = .inl (ca 0, 16, .inl (a 10)) := kM_2 (j := 10) (by decide) rfl
theorem kM_p10 {ad : Nat → Nat} {ca : Nat → ClassId} {f : wF} {a : wA} {b : wB} {g : Nat → Int32} : va_up (kM ad ca f a b) 10 (.inl (ca 0, 16, .inl g)) = kM ad ca f (va_up a 10 g) b := kM_up2 (j := 10) (by decide) rfl
theorem kM_c11 {ad : Nat → Nat} {ca : Nat → ClassId} {f : wF} {a : wA} {b : wB} : kM ad ca f a b 11 = .inl (ca 0, 10, .inl (a 11)) := kM_2 (j := 11) (by decide) rfl
theorem kM_p11 {ad : Nat → Nat} {ca : Nat → ClassId} {f : wF} {a : wA} {b : wB} {g : Nat → Int32} : va_up (kM ad ca f a b) 11 (.inl (ca 0, 10, .inl g)) = kM ad ca f (va_up a 11 g) b := kM_up2 (j := 11) (by decide) rfl
theorem kM_c12 {ad : Nat → Nat} {ca : Nat → ClassId} {f : wF} {a : wA} {b : wB} : kM ad ca f a b 12 = .inl (ca 2, 45056, .inr (.inl (b 12))) := kM_4 (j := 12) (by decide) rfl
theorem kM_p12 {ad : Nat → Nat} {ca : Nat → ClassId} {f : wF} {a : wA} {b : wB} {g : Nat → Int64} : va_up (kM ad ca f a b) 12 (.inl (ca 2, 45056, .inr (.inl g))) = kM ad ca f a (va_up b 12 g) := kM_up4 (j := 12) (by decide) rfl
abbrev tS_o0 : Nat → FieldType := ftS
theorem tS_o0_ok : ∀ k, k < 17 → parseFieldDescriptor (TS k).2.2.1 = some (tS_o0 k) := ftS_ok
theorem nS_o0 : ∀ a, a < 17 → ∀ b, b < 17 → a ≠ b → (TS a).2.1 ≠ (TS b).2.1 := nmS
theorem inS_o0 : ∀ w ∈ u_ws "SendBest" TS 17, w ∈ Wl := inS
abbrev tS_o24 : Nat → FieldType := ftP
theorem tS_o24_ok : ∀ k, k < 14 → parseFieldDescriptor (TP k).2.2.1 = some (tS_o24 k) := ftP_ok
theorem nS_o24 : ∀ a, a < 14 → ∀ b, b < 14 → a ≠ b → (TP a).2.1 ≠ (TP b).2.1 := nmP
theorem inS_o24 : ∀ w ∈ u_ws "SendBest$Pairing" TP 14, w ∈ Wl := inP
abbrev tM_o0 : Nat → FieldType := ftM
theorem tM_o0_ok : ∀ k, k < 19 → parseFieldDescriptor (TM k).2.2.1 = some (tM_o0 k) := ftM_ok
theorem nM_o0 : ∀ a, a < 19 → ∀ b, b < 19 → a ≠ b → (TM a).2.1 ≠ (TM b).2.1 := nmM
theorem inM_o0 : ∀ w ∈ u_ws "SendBestModel" TM 19, w ∈ Wl := inM
def txS : List (String × Nat × String) := [("SendBest", 69, "skills have bits 0 to 15"), ("SendBest", 79, "no room for a unit"), ("SendBest", 197, "a rank is 1 to 9"), ("SendBest", 89, "no room for an incident"), ("SendBest", 191, "no such incident"), ("SendBest", 202, "the incident is closed"), ("SendBest", 195, "no such skill"), ("SendBest", 100, "so many needs are 0 to 10"), ("SendBest", 105, "no room for the needs"), ("SendBest", 189, "no such unit"), ("SendBest", 200, "seconds are 0 to 99999, or -1 for none"), ("SendBest", 115, "a reserve\'s rank is 1 to 10"), ("SendBest", 113, "a reserve has 0 to 12 units"), ("SendBest", 119, "the unit is so"), ("SendBest", 126, "saved seconds are 0 to 1000000"), ("SendBest", 204, "the unit fills no need"), ("SendBest", 193, "no such need"), ("SendBest", 166, "of a need 0 to 3 can be asked"), ("SendBest", 169, "there are the sums 0 and 1"), ("SendBest", 184, "needs are counted from 0 on")]
def txM : List (String × Nat × String) := []
theorem xg_S_71 : ∀ w ∈ (vx_atS "SendBest" 71 "java/lang/IndexOutOfBoundsException" ["java/lang/RuntimeException", "java/lang/Exception"]).filter goodWord, w ∈ Wl := fun w h => List.mem_filter.mpr ⟨(by decide +kernel : ∀ w ∈ (vx_atS "SendBest" 71 "java/lang/IndexOutOfBoundsException" ["java/lang/RuntimeException", "java/lang/Exception"]).filter goodWord, w ∈ lw_tbl) w h, (List.mem_filter.mp h).2⟩
theorem xb_S_71 : ∀ w ∈ (vx_atS "SendBest" 71 "java/lang/IndexOutOfBoundsException" ["java/lang/RuntimeException", "java/lang/Exception"]).filter (fun w => !goodWord w), w ∈ thC ++ thD := by decide +kernel
theorem xo_S_71_67 : ∀ w ∈ Cond.classLink "SendBest" 67 "java/lang/IndexOutOfBoundsException" :: Cond.initialized "java/lang/IndexOutOfBoundsException" :: vx_atS "SendBest" 71 "java/lang/IndexOutOfBoundsException" ["java/lang/RuntimeException", "java/lang/Exception"], vx_ot w = true := by decide +kernel
theorem xg_S_81 : ∀ w ∈ (vx_atS "SendBest" 81 "java/lang/UnsupportedOperationException" ["java/lang/RuntimeException", "java/lang/Exception"]).filter goodWord, w ∈ Wl := fun w h => List.mem_filter.mpr ⟨(by decide +kernel : ∀ w ∈ (vx_atS "SendBest" 81 "java/lang/UnsupportedOperationException" ["java/lang/RuntimeException", "java/lang/Exception"]).filter goodWord, w ∈ lw_tbl) w h, (List.mem_filter.mp h).2⟩
theorem xb_S_81 : ∀ w ∈ (vx_atS "SendBest" 81 "java/lang/UnsupportedOperationException" ["java/lang/RuntimeException", "java/lang/Exception"]).filter (fun w => !goodWord w), w ∈ thC ++ thD := by decide +kernel
theorem xo_S_81_77 : ∀ w ∈ Cond.classLink "SendBest" 77 "java/lang/UnsupportedOperationException" :: Cond.initialized "java/lang/UnsupportedOperationException" :: vx_atS "SendBest" 81 "java/lang/UnsupportedOperationException" ["java/lang/RuntimeException", "java/lang/Exception"], vx_ot w = true := by decide +kernel
theorem xg_S_168 : ∀ w ∈ (vx_atS "SendBest" 168 "java/lang/IllegalArgumentException" ["java/lang/RuntimeException", "java/lang/Exception"]).filter goodWord, w ∈ Wl := fun w h => List.mem_filter.mpr ⟨(by decide +kernel : ∀ w ∈ (vx_atS "SendBest" 168 "java/lang/IllegalArgumentException" ["java/lang/RuntimeException", "java/lang/Exception"]).filter goodWord, w ∈ lw_tbl) w h, (List.mem_filter.mp h).2⟩
theorem xb_S_168 : ∀ w ∈ (vx_atS "SendBest" 168 "java/lang/IllegalArgumentException" ["java/lang/RuntimeException", "java/lang/Exception"]).filter (fun w => !goodWord w), w ∈ thC ++ thD := by decide +kernel
theorem xo_S_168_164 : ∀ w ∈ Cond.classLink "SendBest" 164 "java/lang/IllegalArgumentException" :: Cond.initialized "java/lang/IllegalArgumentException" :: vx_atS "SendBest" 168 "java/lang/IllegalArgumentException" ["java/lang/RuntimeException", "java/lang/Exception"], vx_ot w = true := by decide +kernel
theorem xg_S_121 : ∀ w ∈ (vx_atS "SendBest" 121 "java/lang/IllegalStateException" ["java/lang/RuntimeException", "java/lang/Exception"]).filter goodWord, w ∈ Wl := fun w h => List.mem_filter.mpr ⟨(by decide +kernel : ∀ w ∈ (vx_atS "SendBest" 121 "java/lang/IllegalStateException" ["java/lang/RuntimeException", "java/lang/Exception"]).filter goodWord, w ∈ lw_tbl) w h, (List.mem_filter.mp h).2⟩
theorem xb_S_121 : ∀ w ∈ (vx_atS "SendBest" 121 "java/lang/IllegalStateException" ["java/lang/RuntimeException", "java/lang/Exception"]).filter (fun w => !goodWord w), w ∈ thC ++ thD := by decide +kernel
theorem xo_S_121_117 : ∀ w ∈ Cond.classLink "SendBest" 117 "java/lang/IllegalStateException" :: Cond.initialized "java/lang/IllegalStateException" :: vx_atS "SendBest" 121 "java/lang/IllegalStateException" ["java/lang/RuntimeException", "java/lang/Exception"], vx_ot w = true := by decide +kernel
