theorem tb1 {i : Nat} {w : Cond} (h : tables_1_1[i]? = some w) : w ∈ lw_tbl := List.mem_append_right _ (List.mem_append_left _ (List.mem_of_getElem? h))
theorem tb2 {i : Nat} {w : Cond} (h : tables_1_2[i]? = some w) : w ∈ lw_tbl := List.mem_append_right _ (List.mem_append_right _ (List.mem_append_left _ (List.mem_of_getElem? h)))
theorem tb3 {i : Nat} {w : Cond} (h : tables_1_3[i]? = some w) : w ∈ lw_tbl := List.mem_append_right _ (List.mem_append_right _ (List.mem_append_right _ (List.mem_append_left _ (List.mem_of_getElem? h))))
theorem tb4 {i : Nat} {w : Cond} (h : tables_1_4[i]? = some w) : w ∈ lw_tbl := List.mem_append_right _ (List.mem_append_right _ (List.mem_append_right _ (List.mem_append_right _ (List.mem_of_getElem? h))))
theorem arrOver_spec9 {args : Array Value} {s : State} {t : FieldType} (h : (Cond.arrayOver (.array t)).before args s = true) : ∃ c : ClassId, ArrOfT s c (.array t) ∧ va_RA s c (.array t) := by
  have h : (Cond.arrayOver (.array t)).holds args s none s [] = true := h
  simp only [Cond.holds, Cond.value, beq_iff_eq] at h
  cases hc : s.vm.findClass (FieldType.array t).toString with
  | none => simp [hc] at h
  | some comp =>
    simp only [hc, Option.bind_some, Option.bind_eq_some_iff, Option.map_eq_some_iff] at h
    obtain ⟨c, hi, k, hk, hb⟩ := h
    obtain ⟨hlt, hp, -⟩ := Array.findIdx?_eq_some_iff_getElem.mp hi
    have hkk : s.vm.classes[c] = k := (Array.getElem?_eq_some_iff.mp hk).2
    rw [hkk] at hp
    cases hkind : k.kind with
    | array component ty =>
      rw [hkind] at hb hp
      simp at hb hp
      exact ⟨c, fun N z => ⟨(fun q hq => by cases hq), k, hk, comp, by rw [hkind, hp, hb.1]⟩, hb.2⟩
    | _ => rw [hkind] at hb; simp at hb
theorem arrCls_spec9 {args : Array Value} {s : State} {t : FieldType} (h : (Cond.arrayClass t).before args s = true) : ∃ c : ClassId, ArrOfT s c t ∧ s.vm.findClass ("[" ++ t.toString) = some c := by
  obtain ⟨c, k, comp, h1, h2, h3⟩ := Cond.arrayClass_spec h
  exact ⟨c, fun N z => ⟨(fun q hq => by cases hq), k, h2, comp, h3⟩, h1⟩
theorem text_spec9 {args : Array Value} {s : State} {own tx : String} {k : Nat} (h1 : (Cond.stringRef own k tx).before args s = true) (h2 : (Cond.exactly (Term.string own k) "java/lang/String").before args s = true) : ∃ a, vk_R own k tx a s := by
  obtain ⟨b, -, -, -, hb, -⟩ := Cond.exactly_spec h2
  exact ⟨b, vk_R.of h1 hb⟩
theorem kS_ad {ad ad1 : Nat → Nat} {ca : Nat → ClassId} {f : wF} {a : wA} {b : wB} {j : Nat} (hj : j < 57) (h : ∀ i, i < 57 → ad i = ad1 i) : kS ad ca f a b j = kS ad1 ca f a b j := by
  match j, hj with
  | 0, _ =>
    show (Sum.inr (1, flS_o0 ad f) : va_E) = Sum.inr (1, flS_o0 ad1 f)
    unfold flS_o0
    rw [h 1 (by decide), h 2 (by decide), h 3 (by decide), h 4 (by decide), h 5 (by decide), h 18 (by decide), h 19 (by decide), h 20 (by decide), h 21 (by decide), h 22 (by decide), h 23 (by decide), h 24 (by decide)]
  | 1, _ => rfl
  | 2, _ => rfl
  | 3, _ => rfl
  | 4, _ => rfl
  | 5, _ => exact congrArg (fun g9 : Nat → Option Nat => (Sum.inl (ca 3, 12, .inr (.inr (.inr (.inr g9)))) : va_E)) (funext (fun i => by
      show (if i < 12 then some (ad (6 + i)) else none) = (if i < 12 then some (ad1 (6 + i)) else none)
      by_cases h9 : i < 12
      · rw [if_pos h9, if_pos h9, h (6 + i) (by omega)]
      · rw [if_neg h9, if_neg h9]))
  | 6, _ => rfl
  | 7, _ => rfl
  | 8, _ => rfl
  | 9, _ => rfl
  | 10, _ => rfl
  | 11, _ => rfl
  | 12, _ => rfl
  | 13, _ => rfl
  | 14, _ => rfl
  | 15, _ => rfl
  | 16, _ => rfl
  | 17, _ => rfl
  | 18, _ => rfl
  | 19, _ => rfl
  | 20, _ => rfl
  | 21, _ => rfl
  | 22, _ => rfl
  | 23, _ => rfl
  | 24, _ =>
    show (Sum.inr (0, flS_o24 ad f) : va_E) = Sum.inr (0, flS_o24 ad1 f)
    unfold flS_o24
    rw [h 25 (by decide), h 26 (by decide), h 37 (by decide), h 48 (by decide), h 49 (by decide), h 50 (by decide), h 51 (by decide), h 52 (by decide), h 53 (by decide), h 54 (by decide), h 55 (by decide), h 56 (by decide)]
  | 25, _ => rfl
  | 26, _ => exact congrArg (fun g9 : Nat → Option Nat => (Sum.inl (ca 4, 10, .inr (.inr (.inr (.inr g9)))) : va_E)) (funext (fun i => by
      show (if i < 10 then some (ad (27 + i)) else none) = (if i < 10 then some (ad1 (27 + i)) else none)
      by_cases h9 : i < 10
      · rw [if_pos h9, if_pos h9, h (27 + i) (by omega)]
      · rw [if_neg h9, if_neg h9]))
  | 27, _ => rfl
  | 28, _ => rfl
  | 29, _ => rfl
  | 30, _ => rfl
  | 31, _ => rfl
  | 32, _ => rfl
  | 33, _ => rfl
  | 34, _ => rfl
  | 35, _ => rfl
  | 36, _ => rfl
  | 37, _ => exact congrArg (fun g9 : Nat → Option Nat => (Sum.inl (ca 4, 10, .inr (.inr (.inr (.inr g9)))) : va_E)) (funext (fun i => by
      show (if i < 10 then some (ad (38 + i)) else none) = (if i < 10 then some (ad1 (38 + i)) else none)
      by_cases h9 : i < 10
      · rw [if_pos h9, if_pos h9, h (38 + i) (by omega)]
      · rw [if_neg h9, if_neg h9]))
  | 38, _ => rfl
  | 39, _ => rfl
  | 40, _ => rfl
  | 41, _ => rfl
  | 42, _ => rfl
  | 43, _ => rfl
  | 44, _ => rfl
  | 45, _ => rfl
  | 46, _ => rfl
  | 47, _ => rfl
  | 48, _ => rfl
  | 49, _ => rfl
  | 50, _ => rfl
  | 51, _ => rfl
  | 52, _ => rfl
  | 53, _ => rfl
  | 54, _ => rfl
  | 55, _ => rfl
  | 56, _ => rfl
  | j + 57, hj => exact absurd hj (by omega)
set_option maxRecDepth 100000 in
theorem texts9 {args : Array Value} {s : State} (hts : ∀ w ∈ lw_tbl, w.before args s = true) (hgv : (Jvm.Cond.and given_1 narrow_1).before args s = true) : ∃ sa : Nat → Nat, ∀ (k : Nat) (q : String × Nat × String), txS[k]? = some q → vk_R q.1 q.2.1 q.2.2 (sa k) s := by
  have hs := flat_of_before _ hgv
  have h : ∀ k : Nat, ∃ a : Nat, ∀ q : String × Nat × String, txS[k]? = some q → vk_R q.1 q.2.1 q.2.2 a s := by
    intro k
    match k with
    | 0 => obtain ⟨a, h⟩ := text_spec9 (hts _ (tb1 (i := 186) rfl)) (hs (Cond.exactly (Term.string "SendBest" 69) "java/lang/String") (by decide +kernel)); exact ⟨a, fun q hq => by cases hq; exact h⟩
    | 1 => obtain ⟨a, h⟩ := text_spec9 (hts _ (tb1 (i := 222) rfl)) (hs (Cond.exactly (Term.string "SendBest" 79) "java/lang/String") (by decide +kernel)); exact ⟨a, fun q hq => by cases hq; exact h⟩
    | 2 => obtain ⟨a, h⟩ := text_spec9 (hts _ (tb1 (i := 239) rfl)) (hs (Cond.exactly (Term.string "SendBest" 197) "java/lang/String") (by decide +kernel)); exact ⟨a, fun q hq => by cases hq; exact h⟩
    | 3 => obtain ⟨a, h⟩ := text_spec9 (hts _ (tb2 (i := 0) rfl)) (hs (Cond.exactly (Term.string "SendBest" 89) "java/lang/String") (by decide +kernel)); exact ⟨a, fun q hq => by cases hq; exact h⟩
    | 4 => obtain ⟨a, h⟩ := text_spec9 (hts _ (tb2 (i := 23) rfl)) (hs (Cond.exactly (Term.string "SendBest" 191) "java/lang/String") (by decide +kernel)); exact ⟨a, fun q hq => by cases hq; exact h⟩
    | 5 => obtain ⟨a, h⟩ := text_spec9 (hts _ (tb2 (i := 43) rfl)) (hs (Cond.exactly (Term.string "SendBest" 202) "java/lang/String") (by decide +kernel)); exact ⟨a, fun q hq => by cases hq; exact h⟩
    | 6 => obtain ⟨a, h⟩ := text_spec9 (hts _ (tb2 (i := 60) rfl)) (hs (Cond.exactly (Term.string "SendBest" 195) "java/lang/String") (by decide +kernel)); exact ⟨a, fun q hq => by cases hq; exact h⟩
    | 7 => obtain ⟨a, h⟩ := text_spec9 (hts _ (tb2 (i := 61) rfl)) (hs (Cond.exactly (Term.string "SendBest" 100) "java/lang/String") (by decide +kernel)); exact ⟨a, fun q hq => by cases hq; exact h⟩
    | 8 => obtain ⟨a, h⟩ := text_spec9 (hts _ (tb2 (i := 62) rfl)) (hs (Cond.exactly (Term.string "SendBest" 105) "java/lang/String") (by decide +kernel)); exact ⟨a, fun q hq => by cases hq; exact h⟩
    | 9 => obtain ⟨a, h⟩ := text_spec9 (hts _ (tb2 (i := 74) rfl)) (hs (Cond.exactly (Term.string "SendBest" 189) "java/lang/String") (by decide +kernel)); exact ⟨a, fun q hq => by cases hq; exact h⟩
    | 10 => obtain ⟨a, h⟩ := text_spec9 (hts _ (tb2 (i := 79) rfl)) (hs (Cond.exactly (Term.string "SendBest" 200) "java/lang/String") (by decide +kernel)); exact ⟨a, fun q hq => by cases hq; exact h⟩
    | 11 => obtain ⟨a, h⟩ := text_spec9 (hts _ (tb2 (i := 95) rfl)) (hs (Cond.exactly (Term.string "SendBest" 115) "java/lang/String") (by decide +kernel)); exact ⟨a, fun q hq => by cases hq; exact h⟩
    | 12 => obtain ⟨a, h⟩ := text_spec9 (hts _ (tb2 (i := 94) rfl)) (hs (Cond.exactly (Term.string "SendBest" 113) "java/lang/String") (by decide +kernel)); exact ⟨a, fun q hq => by cases hq; exact h⟩
    | 13 => obtain ⟨a, h⟩ := text_spec9 (hts _ (tb2 (i := 103) rfl)) (hs (Cond.exactly (Term.string "SendBest" 119) "java/lang/String") (by decide +kernel)); exact ⟨a, fun q hq => by cases hq; exact h⟩
    | 14 => obtain ⟨a, h⟩ := text_spec9 (hts _ (tb2 (i := 116) rfl)) (hs (Cond.exactly (Term.string "SendBest" 126) "java/lang/String") (by decide +kernel)); exact ⟨a, fun q hq => by cases hq; exact h⟩
    | 15 => obtain ⟨a, h⟩ := text_spec9 (hts _ (tb3 (i := 26) rfl)) (hs (Cond.exactly (Term.string "SendBest" 204) "java/lang/String") (by decide +kernel)); exact ⟨a, fun q hq => by cases hq; exact h⟩
    | 16 => obtain ⟨a, h⟩ := text_spec9 (hts _ (tb3 (i := 52) rfl)) (hs (Cond.exactly (Term.string "SendBest" 193) "java/lang/String") (by decide +kernel)); exact ⟨a, fun q hq => by cases hq; exact h⟩
    | 17 => obtain ⟨a, h⟩ := text_spec9 (hts _ (tb3 (i := 53) rfl)) (hs (Cond.exactly (Term.string "SendBest" 166) "java/lang/String") (by decide +kernel)); exact ⟨a, fun q hq => by cases hq; exact h⟩
    | 18 => obtain ⟨a, h⟩ := text_spec9 (hts _ (tb3 (i := 68) rfl)) (hs (Cond.exactly (Term.string "SendBest" 169) "java/lang/String") (by decide +kernel)); exact ⟨a, fun q hq => by cases hq; exact h⟩
    | 19 => obtain ⟨a, h⟩ := text_spec9 (hts _ (tb3 (i := 91) rfl)) (hs (Cond.exactly (Term.string "SendBest" 184) "java/lang/String") (by decide +kernel)); exact ⟨a, fun q hq => by cases hq; exact h⟩
    | k + 20 => exact ⟨0, fun q hq => by simp [txS] at hq⟩
  exact Classical.skolem.mp h
set_option maxRecDepth 100000 in
theorem th9 {args : Array Value} {s : State} (hts : ∀ w ∈ lw_tbl, w.before args s = true) (hgv : (Jvm.Cond.and given_1 narrow_1).before args s = true) : ∃ sa : Nat → Nat, th txS sa (fun q : Nat => s.heap.size ≤ q) s s.heap := by
  have hs := flat_of_before _ hgv
  obtain ⟨sa, hsa⟩ := texts9 hts hgv
  refine ⟨sa, vx_Zqof (hts _ (tb1 (i := 171) rfl)) (hts _ (tb1 (i := 5) rfl)) (hs (Cond.isRef (.static "java/lang/Throwable" "UNASSIGNED_STACK" "[Ljava/lang/StackTraceElement;")) (by decide +kernel)) (fun a h9 => Nat.not_le.mpr h9), vx_Zqof (hts _ (tb1 (i := 173) rfl)) (hts _ (tb1 (i := 5) rfl)) (hs (Cond.isRef (.static "java/lang/Throwable" "SUPPRESSED_SENTINEL" "Ljava/util/List;")) (by decide +kernel)) (fun a h9 => Nat.not_le.mpr h9), hsa, ?_, ?_, ?_⟩
  · intro w hw
    simp only [List.map_cons, List.map_nil, List.mem_cons, List.not_mem_nil, or_false] at hw
    rcases hw with rfl | rfl | rfl
    · exact va_Nw.of rfl (hts _ (tb1 (i := 148) rfl))
    · exact va_Nw.of rfl (hts _ (tb1 (i := 150) rfl))
    · exact va_Nw.of rfl (hts _ (tb1 (i := 152) rfl))
  · intro w hw
    simp only [List.map_cons, List.map_nil, List.mem_cons, List.not_mem_nil, or_false] at hw
    rcases hw with rfl | rfl | rfl | rfl
    · exact va_Nw.of rfl (hts _ (tb2 (i := 16) rfl))
    · exact va_Nw.of rfl (hts _ (tb1 (i := 146) rfl))
    · exact va_Nw.of rfl (hts _ (tb2 (i := 36) rfl))
    · exact va_Nw.of rfl (hts _ (tb1 (i := 215) rfl))
  · intro C hC T hT hne
    simp only [List.mem_cons, List.not_mem_nil, or_false] at hC hT
    rcases hC with rfl | rfl | rfl | rfl <;> rcases hT with rfl | rfl | rfl | rfl
    · exact absurd rfl hne
    · exact va_Nc.of (hs (Cond.not (.castable "java/lang/IllegalArgumentException" "java/lang/IndexOutOfBoundsException")) (by decide +kernel))
    · exact va_Nc.of (hs (Cond.not (.castable "java/lang/IllegalArgumentException" "java/lang/IllegalStateException")) (by decide +kernel))
    · exact va_Nc.of (hs (Cond.not (.castable "java/lang/IllegalArgumentException" "java/lang/UnsupportedOperationException")) (by decide +kernel))
    · exact va_Nc.of (hs (Cond.not (.castable "java/lang/IndexOutOfBoundsException" "java/lang/IllegalArgumentException")) (by decide +kernel))
    · exact absurd rfl hne
    · exact va_Nc.of (hs (Cond.not (.castable "java/lang/IndexOutOfBoundsException" "java/lang/IllegalStateException")) (by decide +kernel))
    · exact va_Nc.of (hs (Cond.not (.castable "java/lang/IndexOutOfBoundsException" "java/lang/UnsupportedOperationException")) (by decide +kernel))
    · exact va_Nc.of (hs (Cond.not (.castable "java/lang/IllegalStateException" "java/lang/IllegalArgumentException")) (by decide +kernel))
    · exact va_Nc.of (hs (Cond.not (.castable "java/lang/IllegalStateException" "java/lang/IndexOutOfBoundsException")) (by decide +kernel))
    · exact absurd rfl hne
    · exact va_Nc.of (hs (Cond.not (.castable "java/lang/IllegalStateException" "java/lang/UnsupportedOperationException")) (by decide +kernel))
    · exact va_Nc.of (hs (Cond.not (.castable "java/lang/UnsupportedOperationException" "java/lang/IllegalArgumentException")) (by decide +kernel))
    · exact va_Nc.of (hs (Cond.not (.castable "java/lang/UnsupportedOperationException" "java/lang/IndexOutOfBoundsException")) (by decide +kernel))
    · exact va_Nc.of (hs (Cond.not (.castable "java/lang/UnsupportedOperationException" "java/lang/IllegalStateException")) (by decide +kernel))
    · exact absurd rfl hne
/-- what is to be known of the three constructors' bodies, without the machine -/
def okInit (I : wF → wA → wB → wF → wA → wB → Prop) : Prop := ∃ (poP poS poM : wF → wA → wB → Prop), wp_P_init poP (fun _ => 0) (fun _ _ => 0) (fun _ _ => 0) ∧ (∀ (fP : wF) (aP : wA) (bP : wB), poP fP aP bP → wp_S_init poS (fun j => if j < 5 then (va_up (va_up (fun _ => 0) 3 ((0 : Int32))) 4 ((10 : Int32))) j else fP (j - 5)) (fun j => if j < 24 then (fun _ => 0) else aP (j - 24)) (fun j => if j < 24 then (fun _ => 0) else bP (j - 24))) ∧ wp_M_init poM (va_up (fun _ => 0) 5 ((10 : Int32))) (fun _ _ => 0) (fun _ _ => 0) ∧ ∀ (fS : wF) (aS : wA) (bS : wB) (fM : wF) (aM : wA) (bM : wB), poS fS aS bS → poM fM aM bM → I fS aS (fun j => if j = 57 then (fun _ => 0) else bS j) fM aM bM
set_option maxHeartbeats 8000000 in
set_option maxRecDepth 100000 in
theorem start_W {p : Program} {e : Env} {s : State} {m : MethodId} {below : List Frame} {meth : Method} {c : Code} {l : Launch} (hl9 : l.stackTraces = false) {I : wF → wA → wB → wF → wA → wB → Prop} (hok : okAll I) (hin : okInit I) {b L : Nat} {xs : Nat → Int32} (hL : L ≤ 2048) (C0 : lw_At p s m meth c b L xs) : W p l e room_1 s m #[Value.ref b] below meth c s.heap [] 0 0 (lw_Z below #[Value.ref b] s) (entryFrame m ([Value.ref b] : List Value).toArray 7) := by
  obtain ⟨hx, hb, hr, hml, hown, hts, hX, hbl, hlocks, hgv⟩ := id C0
  obtain ⟨poP, poS, poM, hP9, hS9, hM9, hI9⟩ := hin
  have htsW : ∀ w ∈ Wl, w.before #[Value.ref b] s = true := fun w hw => hts w (wl_in w hw)
  obtain ⟨sa, hth⟩ := th9 hts hgv
  obtain ⟨c0, iS0, hKn0⟩ := u_known (C := "SendBest$Pairing") (T := TP) (N := 14) (n := 14) htsW inP (htsW _ (tm1 (i := 25) rfl rfl))
  obtain ⟨c1, iS1, hKn1⟩ := u_known (C := "SendBest") (T := TS) (N := 17) (n := 17) htsW inS (htsW _ (tm1 (i := 15) rfl rfl))
  obtain ⟨c2, iS2, hKn2⟩ := u_known (C := "SendBestModel") (T := TM) (N := 19) (n := 19) htsW inM (htsW _ (tm3 (i := 97) rfl rfl))
  obtain ⟨D, hKc⟩ : ∃ D : va_G, ∀ (k : Nat) (q : vw_C), vwCl[k]? = some q → u_Kn s q.1 q.2.1 q.2.2 (D.1 k) (D.2 k) := by
    refine ⟨(fun k => if k = 0 then c0 else if k = 1 then c1 else c2, fun k => if k = 0 then iS0 else if k = 1 then iS1 else iS2), ?_⟩
    intro k q hq
    match k, hq with
    | 0, hq => cases hq; exact hKn0
    | 1, hq => cases hq; exact hKn1
    | 2, hq => cases hq; exact hKn2
    | k + 3, hq => simp [vwCl] at hq
  obtain ⟨ai, ai1, ai2⟩ := arrCls_spec9 (htsW (Cond.arrayClass .int) (tm1 (i := 76) rfl rfl))
  obtain ⟨az, az1, az2⟩ := arrCls_spec9 (htsW (Cond.arrayClass .boolean) (tm1 (i := 77) rfl rfl))
  obtain ⟨al, al1, al2⟩ := arrCls_spec9 (htsW (Cond.arrayClass .long) (tm1 (i := 78) rfl rfl))
  have ho1 : va_AOA .int s := va_AOA.of (hts (Cond.arrayOver (.array .int)) (tb1 (i := 23) rfl))
  have ho2 : va_AOA .long s := va_AOA.of (hts (Cond.arrayOver (.array .long)) (tb1 (i := 31) rfl))
  obtain ⟨aii, aii1, aii2⟩ := arrOver_spec9 (args := #[]) (t := .int) ho1
  obtain ⟨all, all1, all2⟩ := arrOver_spec9 (args := #[]) (t := .long) ho2
  obtain ⟨ca, ea⟩ : ∃ ca : Nat → ClassId, ca 0 = ai ∧ ca 1 = az ∧ ca 2 = al ∧ ca 3 = aii ∧ ca 4 = all := ⟨fun k => if k = 0 then ai else if k = 1 then az else if k = 2 then al else if k = 3 then aii else all, rfl, rfl, rfl, rfl, rfl⟩
  obtain ⟨rfl, rfl, rfl, rfl, rfl⟩ := ea
  have hK : va_K D vwCl (tyS ca) s := ⟨hKc, fun k q hk => by
    match k, hk with
    | 0, hk => cases hk; exact ⟨ai1, ai2⟩
    | 1, hk => cases hk; exact ⟨az1, az2⟩
    | 2, hk => cases hk; exact ⟨al1, al2⟩
    | 3, hk => cases hk; exact ⟨aii1, aii2⟩
    | 4, hk => cases hk; exact ⟨all1, all2⟩
    | k + 5, hk => simp [tyS] at hk⟩
  have X : cx Wl (tyS ca) txS D vwCl sa (fun q : Nat => s.heap.size ≤ q) p l s m #[Value.ref b] meth c code 7 "SendBestLaw" := ⟨hx, hb, hml, hown, htsW, hK, fun _ h => h, hth, hlocks, hl9⟩
  have K : wk D vwCl (fun _ => 0) (fun _ => .inr (0, [])) 0 (fun q : Nat => s.heap.size ≤ q) s s.heap [] := ⟨fun k q h => by simp [wg] at h, ⟨fun i j p q h => by simp [wg] at h, fun k q h => by simp [wg] at h⟩, va_S.rf⟩
  have hl := lv_entry ([.ref b]) (n := 7) (Nat.le_of_ble_eq_true rfl)
  rw [lg_entry_eq]
  generalize (lg_sl ([.ref b]) ++ List.replicate (7 - (lg_sl ([.ref b])).length) Slot.unset).toArray = ls at hl ⊢
  have hl : lv_has ls 7 [(0, .ref b)] := hl
  refine nNew X K (ci := 1) (fs := dfS) ftS inS ftS_ok (tm1 (i := 14) rfl rfl) (tm1 (i := 15) rfl rfl) (tm1 (i := 1) rfl rfl) rfl (fun j hj => by revert j hj; decide) (Nat.le_of_ble_eq_true rfl) (Nat.le_of_ble_eq_true rfl) dL_law_0 (fun q1 H K => ?_)
  refine lv_dup hx hb dL_law_3 rfl ?_
  refine nInit X K ho1 ho2 (N0 := 0) (ci := 1) (fs := dfS) (rest := [.ref q1]) rfl (met_S_init hl9 D ca sa _ _ poP (fun _ f a b => poS f a b) (fun _ => hP9) (fun _ fP aP bP h => hS9 fP aP bP h)) (tm1 (i := 16) rfl rfl) (tm1 (i := 17) rfl rfl) (tm1 (i := 1) rfl rfl) (tm1 (i := 18) rfl rfl) rfl ⟨by decide, by decide, by decide +kernel⟩ rfl rfl ⟨Nat.le_of_ble_eq_true rfl, Nat.le_of_ble_eq_true rfl⟩ hl.1 (Nat.le_of_ble_eq_true rfl) dL_law_4 ⟨Nat.le_of_ble_eq_true rfl, Nat.le_of_ble_eq_true rfl⟩ rfl (fun adS fS aS bS H locs hadS hpoS K => ?_)
  refine lv_astore_n (lv' := [(1, .ref q1), (0, .ref b)]) hx hb dL_law_7 rfl hl (by decide) rfl (fun ls hl => ?_)
  refine nNew X K (ci := 2) (fs := dfM) ftM inM ftM_ok (tm3 (i := 96) rfl rfl) (tm3 (i := 97) rfl rfl) (tm1 (i := 4) rfl rfl) rfl (fun j hj => by revert j hj; decide) (Nat.le_of_ble_eq_true rfl) (Nat.le_of_ble_eq_true rfl) dL_law_8 (fun q2 H K => ?_)
  refine lv_dup hx hb dL_law_11 rfl ?_
  refine nInit X K ho1 ho2 (N0 := 57) (ci := 2) (fs := dfM) (rest := [.ref q2]) rfl (met_M_init hl9 D ca sa _ _ (fun _ f a b => poM f a b) (fun _ => hM9)) (tm3 (i := 98) rfl rfl) (tm3 (i := 99) rfl rfl) (tm1 (i := 4) rfl rfl) (tm3 (i := 100) rfl rfl) rfl ⟨by decide, by decide, by decide +kernel⟩ rfl rfl ⟨Nat.le_of_ble_eq_true rfl, Nat.le_of_ble_eq_true rfl⟩ hl.1 (Nat.le_of_ble_eq_true rfl) dL_law_12 ⟨Nat.le_of_ble_eq_true rfl, Nat.le_of_ble_eq_true rfl⟩ rfl (fun adM fM aM bM H locs hadM hpoM K => ?_)
  refine lv_astore_n (lv' := [(2, .ref q2), (1, .ref q1), (0, .ref b)]) hx hb dL_law_15 rfl hl (by decide) rfl (fun ls hl => ?_)
  refine lv_iconst (v := (1 : Int32)) hx hb dL_law_16 (by decide) ?_
  refine nArr X K (atype := .long) (ty := .long) (M := 1) (a0 := (1, (.inr (.inl (fun _ => 0))))) (t0 := 2) (cA := ca 2) (tm1 (i := 78) rfl rfl) rfl rfl (fun _ h9 => h9) (fun _ => rfl) (by decide) (by decide) (by decide) (Nat.le_of_ble_eq_true rfl) (Nat.le_of_ble_eq_true rfl) dL_law_17 (fun q3 H K => ?_)
  refine lv_astore_n (lv' := [(3, .ref q3), (2, .ref q2), (1, .ref q1), (0, .ref b)]) hx hb dL_law_19 rfl hl (by decide) rfl (fun ls hl => ?_)
  refine lv_iconst (v := (0 : Int32)) hx hb dL_law_20 (by decide) ?_
  refine lv_istore (lv' := [(4, .int (0 : Int32)), (3, .ref q3), (2, .ref q2), (1, .ref q1), (0, .ref b)]) hx hb dL_law_21 hl (by decide) rfl (fun ls hl => ?_)
  -- the cells in the law's order
  obtain ⟨k1, k2, k3⟩ := K
  have k1 := wk_P.mp k1
  have k2 := wk_D.mp k2
  obtain ⟨ad, had⟩ : ∃ ad : Nat → Nat, ad = fun j => if j < 57 then adS j else if j = 57 then q3 else adM (j - 58) := ⟨_, rfl⟩
  have e1 : ∀ j, j < 57 → ad j = adS j := fun j hj => by rw [had]; exact if_pos hj
  have e2 : ad 57 = q3 := by rw [had]; rfl
  have e3 : ∀ j, ad (58 + j) = adM j := fun j => by
    rw [had]
    show (if 58 + j < 57 then adS (58 + j) else if 58 + j = 57 then q3 else adM (58 + j - 58)) = adM j
    rw [if_neg (by omega), if_neg (by omega), Nat.add_sub_cancel_left]
  have e4 : (fun k => ad (58 + k)) = adM := funext e3
  -- the made cells' addresses and contents, by number
  generalize hAD : va_up (fun j => if j < 57 then va_up (fun j => if j < 0 then va_up (fun _ => 0) 0 q1 j else adS (j - 0)) (0 + 57) q2 j else adM (j - 57)) (57 + 13) q3 = AD at k1 k2
  have g1 : ∀ j, j < 57 → AD j = adS j := fun j hj => by
    rw [← hAD, va_up_ne _ _ (by omega)]
    show (if j < 57 then va_up (fun j => if j < 0 then va_up (fun _ => 0) 0 q1 j else adS (j - 0)) (0 + 57) q2 j else adM (j - 57)) = adS j
    rw [if_pos hj, va_up_ne _ _ (by omega)]
    show (if j < 0 then va_up (fun _ => 0) 0 q1 j else adS (j - 0)) = adS j
    rw [if_neg (by omega), Nat.sub_zero]
  have g2 : ∀ j, j < 13 → AD (57 + j) = adM j := fun j hj => by
    rw [← hAD, va_up_ne _ _ (by omega)]
    show (if 57 + j < 57 then _ else adM (57 + j - 57)) = adM j
    rw [if_neg (by omega), Nat.add_sub_cancel_left]
  have g3 : AD 70 = q3 := by rw [← hAD]; exact va_up_self _ _ _
  have p1 : q1 = ad 0 := ((e1 0 (by decide)).trans hadS).symm
  have p2 : q2 = ad 58 := ((e3 0).trans hadM).symm
  generalize hKK : va_up (fun j => if j < 57 then va_up (fun j => if j < 0 then va_up (fun _ => (.inr (0, []) : va_E)) 0 (.inr (1, dfS)) j else kS adS ca fS aS bS (j - 0)) (0 + 57) (.inr (2, dfM)) j else kM adM ca fM aM bM (j - 57)) (57 + 13) (.inl (ca 2, (1, (.inr (.inl (fun _ => 0)))))) = KK at k1
  have m1 : ∀ j, j < 57 → KK j = kS adS ca fS aS bS j := fun j hj => by
    rw [← hKK, va_up_ne _ _ (by omega)]
    show (if j < 57 then va_up (fun j => if j < 0 then va_up (fun _ => (.inr (0, []) : va_E)) 0 (.inr (1, dfS)) j else kS adS ca fS aS bS (j - 0)) (0 + 57) (.inr (2, dfM)) j else kM adM ca fM aM bM (j - 57)) = _
    rw [if_pos hj, va_up_ne _ _ (by omega)]
    show (if j < 0 then va_up (fun _ => (.inr (0, []) : va_E)) 0 (.inr (1, dfS)) j else kS adS ca fS aS bS (j - 0)) = _
    rw [if_neg (by omega), Nat.sub_zero]
  have m2 : ∀ j, j < 13 → KK (57 + j) = kM adM ca fM aM bM j := fun j hj => by
    rw [← hKK, va_up_ne _ _ (by omega)]
    show (if 57 + j < 57 then _ else kM adM ca fM aM bM (57 + j - 57)) = _
    rw [if_neg (by omega), Nat.add_sub_cancel_left]
  have m3 : KK 70 = .inl (ca 2, (1, (.inr (.inl (fun _ => 0))))) := by rw [← hKK]; exact va_up_self _ _ _
  have Kf : wd nL9 kL9 D vwCl ad ca (fun q : Nat => s.heap.size ≤ q) s H locs (jF fS fM) (jA aS aM) (jB (fun j => if j = 57 then (fun _ => 0) else bS j) bM) := by
    refine ⟨wk_P.mpr (fun j hj => ?_), wk_D.mpr ⟨fun i j hi hj e9 => ?_, fun j hj => ?_⟩, k3⟩
    · have hj : j < 71 := hj
      rcases (show j < 57 ∨ j = 57 ∨ 58 ≤ j by omega) with h | h | h
      · rw [e1 j h, kL_lo (by omega)]
        have h2 := k1 j (by omega)
        rw [g1 j h, m1 j h] at h2
        have h3 : kW ad ca fS aS (fun j => if j = 57 then (fun _ => 0) else bS j) j = kS adS ca fS aS bS j := by
          unfold kW
          rw [if_neg (by omega), kS_ad (ad := ad) (ad1 := adS) h e1]
          exact kS_congr (fun _ _ => rfl) rfl (if_neg (by omega))
        rw [h3]
        exact h2
      · subst h
        rw [e2, kL_lo (by decide), kW_c57]
        have h2 := k1 70 (by decide)
        rw [g3, m3] at h2
        exact h2
      · obtain ⟨i, rfl⟩ : ∃ i, j = 58 + i := ⟨j - 58, by omega⟩
        rw [e3 i, kL_hi (by omega), e4, Nat.add_sub_cancel_left]
        have h2 := k1 (57 + i) (show 57 + i < 57 + 13 + 1 by omega)
        rw [g2 i (by omega), m2 i (by omega)] at h2
        exact h2
    · have hi : i < 71 := hi
      have hj : j < 71 := hj
      have hpl : ∀ i, i < 71 → ∃ i', i' < 71 ∧ ad i = AD i' ∧ ((i < 57 ∧ i' = i) ∨ (i = 57 ∧ i' = 70) ∨ (58 ≤ i ∧ i' + 1 = i)) := fun i hi => by
        rcases (show i < 57 ∨ i = 57 ∨ 58 ≤ i by omega) with h | h | h
        · exact ⟨i, by omega, by rw [e1 i h, g1 i h], by omega⟩
        · subst h; exact ⟨70, by decide, by rw [e2, g3], by omega⟩
        · obtain ⟨t, rfl⟩ : ∃ t, i = 58 + t := ⟨i - 58, by omega⟩
          exact ⟨57 + t, by omega, by rw [e3 t, g2 t (by omega)], by omega⟩
      obtain ⟨i', hi1, hi2, hi3⟩ := hpl i hi
      obtain ⟨j', hj1, hj2, hj3⟩ := hpl j hj
      rw [hi2, hj2] at e9
      have h9 := k2.1 i' j' hi1 hj1 e9
      omega
    · have hj : j < 71 := hj
      rcases (show j < 57 ∨ j = 57 ∨ 58 ≤ j by omega) with h | h | h
      · rw [e1 j h, ← g1 j h]; exact k2.2 j (by omega)
      · subst h; rw [e2, ← g3]; exact k2.2 70 (by decide)
      · obtain ⟨i, rfl⟩ : ∃ i, j = 58 + i := ⟨j - 58, by omega⟩
        rw [e3 i, ← g2 i (by omega)]; exact k2.2 (57 + i) (show 57 + i < 57 + 13 + 1 by omega)
  have hl2 : lv_has ls 7 [(0, .ref b), (1, .ref (ad 0)), (2, .ref (ad 58)), (3, .ref (ad 57)), (4, .int (nI (4 * 0)))] := by
    rw [← p1, ← p2, e2]
    exact lv_sub hl [4, 3, 2, 1, 0] rfl
  refine W.widen (k := 71 + 8 * 0) (n := 45839 + 48 * 0) (by decide) (by decide) ?_
  exact law_loop hok X hr hX hbl hL (by decide) (by decide) (L + 1) 0 (by omega) (by omega) fS aS _ fM aM bM (hI9 fS aS bS fM aM bM hpoS hpoM) _ _ Kf ls hl2
