/-! What class and reference hold in common: without the machine. -/
def sOK (x : Int32) : Prop := x = -1 ∨ ∃ k : Nat, k ≤ 99999 ∧ x = nI k
def tieI (r u : Nat) : Int := ((u : Int) - 12) * 13 ^ (9 - r)
def iCnt (fS fM : wF) (U IC NC rs rr : Nat) : Prop := (fS 0 = nI U ∧ fM 1 = nI U ∧ U ≤ 12) ∧ (fS 1 = nI IC ∧ fM 2 = nI IC ∧ IC ≤ 6) ∧ (fS 2 = nI NC ∧ fM 3 = nI NC ∧ NC ≤ 10) ∧ (fS 3 = nI rs ∧ fM 4 = nI rs ∧ rs ≤ 12) ∧ (fS 4 = nI rr ∧ fM 5 = nI rr ∧ 1 ≤ rr ∧ rr ≤ 10)
def iUnit (aS aM : wA) (U : Nat) : Prop := ∀ u, u < U → ∃ k, k < 65536 ∧ aS 1 u = nI k ∧ aM 1 u = nI k
def iBrk (aS aM : wA) : Prop := ∀ u, u < 12 → aM 2 u = aS 2 u ∧ (aS 2 u = 0 ∨ aS 2 u = 1)
def iSec (aS aM : wA) : Prop := ∀ u i, u < 12 → i < 6 → aM 3 (6 * u + i) = aS (6 + u) i ∧ sOK (aS (6 + u) i)
def iInc (aS aM : wA) (IC : Nat) : Prop := ∀ i, i < 6 → (i < IC → (∃ r, 1 ≤ r ∧ r ≤ 9 ∧ aS 18 i = nI r ∧ aM 4 i = nI r) ∧ ((aS 19 i = 1 ∧ aM 5 i = 0) ∨ (aS 19 i = 0 ∧ aM 5 i = 1))) ∧ (¬ i < IC → aM 5 i = 0)
def iNeed (aS aM : wA) (IC NC : Nat) : Prop := ∀ n, n < NC → (∃ c, c < IC ∧ aS 20 n = nI c ∧ aM 6 n = nI c) ∧ (∃ k, k < 16 ∧ aS 21 n = nI k ∧ aM 7 n = nI k)
def iFill (aS aM : wA) (U NC : Nat) : Prop :=
  (∀ n, n < 10 → (n < NC → aM 8 n = aS 22 n ∧ ((aS 22 n = -1 ∧ aM 9 n = 0) ∨ ∃ u, u < U ∧ aS 22 n = nI u ∧ aS 4 u = nI n ∧ aM 9 n = aS 3 u)) ∧ (¬ n < NC → aS 22 n = -1)) ∧
  (∀ u, u < 12 → (aS 3 u = 0 ∨ aS 3 u = 1) ∧ ((aS 4 u = -1 ∧ aS 3 u = 0) ∨ ∃ n, n < NC ∧ aS 4 u = nI n ∧ aS 22 n = nI u ∧ u < U ∧ aS 2 u = 0 ∧ aS 19 (aS 20 n).toNatClampNeg = 1))
def iLim (aS aM : wA) : Prop := ∀ k, k < 16 → aM 10 k = aS 23 k ∧ sOK (aS 23 k)
def iTie (bS : wB) : Prop := ∀ r u, r < 10 → u < 12 → bS (38 + r) u = Int64.ofInt (tieI r u)
def InvN (fS : wF) (aS : wA) (bS : wB) (fM : wF) (aM : wA) (U IC NC rs rr : Nat) : Prop := iCnt fS fM U IC NC rs rr ∧ iUnit aS aM U ∧ iBrk aS aM ∧ iSec aS aM ∧ iInc aS aM IC ∧ iNeed aS aM IC NC ∧ iFill aS aM U NC ∧ iLim aS aM ∧ iTie bS
def Inv : wF → wA → wB → wF → wA → wB → Prop := fun fS aS bS fM aM _ => ∃ U IC NC rs rr, InvN fS aS bS fM aM U IC NC rs rr
/-- the number of the exception and the long[1] play no part -/
theorem Inv.out {fS fM f3 : wF} {aS aM : wA} {bS b1 bM b3 : wB} (h : Inv fS aS bS fM aM bM) (hb : ∀ j, j ≠ 57 → b1 j = bS j) (hf : ∀ k, k ≠ 0 → f3 k = fM k) : Inv fS aS b1 f3 aM b3 := by
  obtain ⟨U, IC, NC, rs, rr, ⟨⟨a1, a2, a3⟩, ⟨a4, a5, a6⟩, ⟨a7, a8, a9⟩, ⟨a10, a11, a12⟩, ⟨a13, a14, a15⟩⟩, h2, h3, h4, h5, h6, h7, h8, h9⟩ := h
  refine ⟨U, IC, NC, rs, rr, ⟨⟨a1, ?_, a3⟩, ⟨a4, ?_, a6⟩, ⟨a7, ?_, a9⟩, ⟨a10, ?_, a12⟩, ⟨a13, ?_, a15⟩⟩, h2, h3, h4, h5, h6, h7, h8, fun r u hr hu => ?_⟩
  · rw [hf 1 (by decide)]; exact a2
  · rw [hf 2 (by decide)]; exact a5
  · rw [hf 3 (by decide)]; exact a8
  · rw [hf 4 (by decide)]; exact a11
  · rw [hf 5 (by decide)]; exact a14
  · rw [hb _ (by omega)]; exact h9 r u hr hu
theorem mg_ne {b b1 : wB} {j : Nat} (h : j ≠ 57) : mgB b b1 j = b1 j := if_neg h
theorem up_ne57 {b : wB} {g : Nat → Int64} {j : Nat} (h : j ≠ 57) : va_up b 57 g j = b j := va_up_ne _ _ h
theorem out_get {b b1 : wB} {v : Int64} : (va_up (mgB b b1) 57 (vp_updL ((mgB b b1) 57) (0 : Int32).toNatClampNeg v)) 57 (0 : Int32).toNatClampNeg = v := by
  rw [va_up_self]
  exact pk_uLs
theorem zb0 : zb 0 := by unfold zb; decide
theorem zb1 : zb 1 := by unfold zb; decide
/-! the reference's small methods -/
theorem M_in {po : Int32 → wF → wA → wB → Prop} {x lo hi : Int32} {f : wF} {a : wA} {b : wB} (h1 : lo ≤ x ∧ x ≤ hi → po 1 f a b) (h0 : ¬ (lo ≤ x ∧ x ≤ hi) → po 0 f a b) : wp_M_in po x lo hi f a b := by
  refine ⟨fun h => ⟨zb0, h0 (fun q => ?_)⟩, fun h => ⟨fun h2 => ⟨zb0, h0 (fun q => ?_)⟩, fun h2 => ⟨zb1, h1 ⟨Int32.not_lt.mp h, Int32.not_lt.mp h2⟩⟩⟩⟩
  · exact absurd h (Int32.not_lt.mpr q.1)
  · exact absurd h2 (Int32.not_lt.mpr q.2)
/-- which of four conditions holds first: 1 .. 4, or 0 -/
def thr (x1 x2 x3 x4 : Int32) : Int32 := if x1 = 0 then if x2 = 0 then if x3 = 0 then if x4 = 0 then 0 else 4 else 3 else 2 else 1
theorem M_thr {po : Int32 → wF → wA → wB → Prop} {x1 x2 x3 x4 : Int32} {f : wF} {a : wA} {b : wB} (h0 : thr x1 x2 x3 x4 = 0 → po 0 (va_up f 0 0) a b) (h1 : ¬ thr x1 x2 x3 x4 = 0 → po 1 (va_up f 0 (thr x1 x2 x3 x4)) a b) : wp_M_throwing po x1 x2 x3 x4 f a b := by
  have e : ∀ k : Int32, (k = 0 ∧ thr x1 x2 x3 x4 = 0) ∨ (¬ k ≤ 0 ∧ k = thr x1 x2 x3 x4 ∧ ¬ k = 0) → wp_M_throwing_35 po k f a b := by
    intro k hk
    unfold wp_M_throwing_35
    rw [va_up_self]
    rcases hk with ⟨rfl, hk⟩ | ⟨hk, rfl, hk2⟩
    · exact ⟨fun _ => ⟨zb0, h0 hk⟩, fun q => absurd (by decide) q⟩
    · exact ⟨fun q => absurd q hk, fun _ => ⟨zb1, h1 hk2⟩⟩
  refine ⟨fun c1 => ⟨fun c2 => ⟨fun c3 => ⟨fun c4 => e _ ?_, fun c4 => e _ ?_⟩, fun c3 => e _ ?_⟩, fun c2 => e _ ?_⟩, fun c1 => e _ ?_⟩
  · left; exact ⟨rfl, by unfold thr; rw [if_pos c1, if_pos c2, if_pos c3, if_pos c4]⟩
  · right; exact ⟨by decide, by unfold thr; rw [if_pos c1, if_pos c2, if_pos c3, if_neg c4], by decide⟩
  · right; exact ⟨by decide, by unfold thr; rw [if_pos c1, if_pos c2, if_neg c3], by decide⟩
  · right; exact ⟨by decide, by unfold thr; rw [if_pos c1, if_neg c2], by decide⟩
  · right; exact ⟨by decide, by unfold thr; rw [if_neg c1], by decide⟩
