/-- all that is to be known of class and reference, without the machine -/
def okAll (I : wF → wA → wB → wF → wA → wB → Prop) : Prop := okc_unit I ∧ okc_incident I ∧ okc_rank I ∧ okc_need I ∧ okc_seconds I ∧ okc_limit I ∧ okc_reserve I ∧ okc_broken I ∧ okc_send I ∧ okc_stay I ∧ okc_recall I ∧ okc_close I ∧ okc_needAt I ∧ okc_fills I ∧ okc_sum I ∧ okc_alternative I ∧ okc_never I
set_option maxHeartbeats 4000000 in
set_option maxRecDepth 100000 in
theorem law_loop {p : Program} {l : Launch} {e : Env} {s : State} {m : MethodId} {below : List Frame} {meth : Method} {c : Code} {D : va_G} {sa : Nat → Nat} {ad : Nat → Nat} {ca : Nat → ClassId} {bs L : Nat} {xs : Nat → Int32} {I : wF → wA → wB → wF → wA → wB → Prop} (hok : okAll I) (X : cx Wl (tyS ca) txS D vwCl sa (fun q : Nat => s.heap.size ≤ q) p l s m #[Value.ref bs] meth c code 7 "SendBestLaw") (hr : meth.sig.returnType = ret) (hX : va_X bs L xs s s.heap) (hbl : bs < s.heap.size) (hL : L ≤ 2048) {C0 S0 : Nat} (hC0 : C0 + 4112 ≤ 601024) (hS0 : S0 + 24672 ≤ 7293034) :
    ∀ (n j : Nat), 4 * j ≤ L → L < 4 * (j + n) → ∀ (fS : wF) (aS : wA) (bS : wB) (fM : wF) (aM : wA) (bM : wB), I fS aS bS fM aM bM → ∀ (H : Heap) (locs : List Loc), wd nL9 kL9 D vwCl ad ca (fun q : Nat => s.heap.size ≤ q) s H locs (jF fS fM) (jA aS aM) (jB bS bM) → ∀ (ls : Array Slot), lv_has ls 7 [(0, .ref bs), (1, .ref (ad 0)), (2, .ref (ad 58)), (3, .ref (ad 57)), (4, .int (nI (4 * j)))] → W p l e room_1 s m #[Value.ref bs] below meth c H locs (C0 + 8 * j) (S0 + 48 * j) (lw_Z below #[Value.ref bs] s) (F0 m 23 ls []) := by
  obtain ⟨hx, hb, hml, hown, hts, hK, hA, hth, hlk, hl9⟩ := id X
  obtain ⟨k0, k1, k2, k3, k4, k5, k6, k7, k8, k9, k10, k11, k12, k13, k14, k15, k16⟩ := hok
  have hbA : ¬ (fun q : Nat => s.heap.size ≤ q) bs := Nat.not_le.mpr hbl
  intro n
  induction n with
  | zero => intro j h1 h2; exact absurd h2 (by omega)
  | succ n ih =>
    intro j hj hjn fS aS bS fM aM bM hI H locs K ls hl
    refine lv_iload hx hb dL_law_23 (lv_at hl 4 rfl) ?_
    refine lv_aload_n hx hb dL_law_25 rfl (lv_at hl 0 rfl) ?_
    refine va_slen hx hb hX hbl hbA K.2.2 dL_law_26 ?_
    refine lv_iconst (v := nI 4) hx hb dL_law_27 (by decide) ?_
    refine lv_isub hx hb dL_law_28 ?_
    refine lv_icmp_gt (tgt := 1070) hx hb dL_law_29 (by decide) (fun hc => ?_) (fun hc => ?_)
    · refine lv_iconst (v := 1) hx hb dL_law_1070 (by decide) ?_
      refine va_forget (fun q hq => K.2.2.2.2 q hq) ?_
      refine W.widen (k := 601024) (n := 7293034) (by omega) (by omega) ?_
      exact lw_ret hx hb hr hlk dL_law_1071
    · have hlt : 4 * j + 4 ≤ L := by
        have hc : ¬ (nI L - nI 4 < nI (4 * j)) := hc
        rw [Int32.lt_iff_toInt_lt, pk_sub_toInt (by omega) (by omega), nI_toInt (by omega)] at hc
        omega
      have e1 : nI (4 * j) + (1 : Int32) = nI (4 * j + 1) := nI_add (4 * j) 1
      have e2 : nI (4 * j) + (2 : Int32) = nI (4 * j + 2) := nI_add (4 * j) 2
      have e3 : nI (4 * j) + (3 : Int32) = nI (4 * j + 3) := nI_add (4 * j) 3
      have e4 : nI (4 * j) + (4 : Int32) = nI (4 * (j + 1)) := nI_add (4 * j) 4
      have h0 : vp_in (nI (4 * j)) L := vp_in_nI (by omega) (by omega)
      have h1 : vp_in (nI (4 * j) + (1 : Int32)) L := by rw [e1]; exact vp_in_nI (by omega) (by omega)
      have h2 : vp_in (nI (4 * j) + (2 : Int32)) L := by rw [e2]; exact vp_in_nI (by omega) (by omega)
      have h3 : vp_in (nI (4 * j) + (3 : Int32)) L := by rw [e3]; exact vp_in_nI (by omega) (by omega)
      have hJ : ∀ (fS : wF) (aS : wA) (bS : wB) (fM : wF) (aM : wA) (bM : wB), I fS aS bS fM aM bM → ∀ (H : Heap) (locs : List Loc), wd nL9 kL9 D vwCl ad ca (fun q : Nat => s.heap.size ≤ q) s H locs (jF fS fM) (jA aS aM) (jB bS bM) → ∀ (ls : Array Slot), lv_has ls 7 [(0, .ref bs), (1, .ref (ad 0)), (2, .ref (ad 58)), (3, .ref (ad 57)), (4, .int (nI (4 * j)))] → W p l e room_1 s m #[Value.ref bs] below meth c H locs (C0 + 8 * j + 8) (S0 + 48 * j + 48) (lw_Z below #[Value.ref bs] s) (F0 m 1064 ls []) := by
        intro fS aS bS fM aM bM hI H locs K ls hl
        refine lv_iinc (v := nI (4 * (j + 1))) (lv' := [(4, .int (nI (4 * (j + 1)))), (0, .ref bs), (1, .ref (ad 0)), (2, .ref (ad 58)), (3, .ref (ad 57))]) hx hb dL_law_1064 hl (k := 4) rfl e4 (by decide) rfl (fun ls hl => ?_)
        refine lv_goto (tgt := 23) hx hb dL_law_1067 (by decide) ?_
        refine W.widen (k := C0 + 8 * (j + 1)) (n := S0 + 48 * (j + 1)) (by omega) (by omega) ?_
        exact ih (j + 1) (by omega) (by omega) fS aS bS fM aM bM hI H locs K ls (lv_sub hl [1, 2, 3, 4, 0] rfl)
      refine lv_aload_n hx hb dL_law_32 rfl (lv_at hl 0 rfl) ?_
      refine lv_iload hx hb dL_law_33 (lv_at hl 4 rfl) ?_
      refine va_sld hx hb hX hbl hbA K.2.2 h0 dL_law_35 ?_
      refine lv_bipush (v := 31) hx hb dL_law_36 (by decide) ?_
      refine lv_iand hx hb dL_law_38 ?_
      obtain ⟨t, ht, et⟩ := pk_andE (xs (nI (4 * j)).toNatClampNeg) (m := 31) 5 (by decide)
      rw [et]
      rcases (show t = 0 ∨ t = 1 ∨ t = 2 ∨ t = 3 ∨ t = 4 ∨ t = 5 ∨ t = 6 ∨ t = 7 ∨ t = 8 ∨ t = 9 ∨ t = 10 ∨ t = 11 ∨ t = 12 ∨ t = 13 ∨ t = 14 ∨ t = 15 ∨ t = 16 ∨ 17 ≤ t by omega) with rfl | rfl | rfl | rfl | rfl | rfl | rfl | rfl | rfl | rfl | rfl | rfl | rfl | rfl | rfl | rfl | rfl | h17
      · refine lv_tableIn (tgt := 120) (off := 81) hx hb dL_law_39 (by decide) (by decide) (by decide) (by decide) ?_
        exact law_unit k0 X hX hbl (by omega) (by omega) h1 h2 h3 hJ fS aS bS fM aM bM hI K hl
      · refine lv_tableIn (tgt := 176) (off := 137) hx hb dL_law_39 (by decide) (by decide) (by decide) (by decide) ?_
        exact law_incident k1 X hX hbl (by omega) (by omega) h1 h2 h3 hJ fS aS bS fM aM bM hI K hl
      · refine lv_tableIn (tgt := 232) (off := 193) hx hb dL_law_39 (by decide) (by decide) (by decide) (by decide) ?_
        exact law_rank k2 X hX hbl (by omega) (by omega) h1 h2 h3 hJ fS aS bS fM aM bM hI K hl
      · refine lv_tableIn (tgt := 280) (off := 241) hx hb dL_law_39 (by decide) (by decide) (by decide) (by decide) ?_
        exact law_need k3 X hX hbl (by omega) (by omega) h1 h2 h3 hJ fS aS bS fM aM bM hI K hl
      · refine lv_tableIn (tgt := 360) (off := 321) hx hb dL_law_39 (by decide) (by decide) (by decide) (by decide) ?_
        exact law_seconds k4 X hX hbl (by omega) (by omega) h1 h2 h3 hJ fS aS bS fM aM bM hI K hl
      · refine lv_tableIn (tgt := 420) (off := 381) hx hb dL_law_39 (by decide) (by decide) (by decide) (by decide) ?_
        exact law_limit k5 X hX hbl (by omega) (by omega) h1 h2 h3 hJ fS aS bS fM aM bM hI K hl
      · refine lv_tableIn (tgt := 468) (off := 429) hx hb dL_law_39 (by decide) (by decide) (by decide) (by decide) ?_
        exact law_reserve k6 X hX hbl (by omega) (by omega) h1 h2 h3 hJ fS aS bS fM aM bM hI K hl
      · refine lv_tableIn (tgt := 516) (off := 477) hx hb dL_law_39 (by decide) (by decide) (by decide) (by decide) ?_
        exact law_broken k7 X hX hbl (by omega) (by omega) h1 h2 h3 hJ fS aS bS fM aM bM hI K hl
      · refine lv_tableIn (tgt := 580) (off := 541) hx hb dL_law_39 (by decide) (by decide) (by decide) (by decide) ?_
        exact law_send k8 X hX hbl (by omega) (by omega) h1 h2 h3 hJ fS aS bS fM aM bM hI K hl
      · refine lv_tableIn (tgt := 636) (off := 597) hx hb dL_law_39 (by decide) (by decide) (by decide) (by decide) ?_
        exact law_stay k9 X hX hbl (by omega) (by omega) h1 h2 h3 hJ fS aS bS fM aM bM hI K hl
      · refine lv_tableIn (tgt := 700) (off := 661) hx hb dL_law_39 (by decide) (by decide) (by decide) (by decide) ?_
        exact law_recall k10 X hX hbl (by omega) (by omega) h1 h2 h3 hJ fS aS bS fM aM bM hI K hl
      · refine lv_tableIn (tgt := 736) (off := 697) hx hb dL_law_39 (by decide) (by decide) (by decide) (by decide) ?_
        exact law_close k11 X hX hbl (by omega) (by omega) h1 h2 h3 hJ fS aS bS fM aM bM hI K hl
      · refine lv_tableIn (tgt := 772) (off := 733) hx hb dL_law_39 (by decide) (by decide) (by decide) (by decide) ?_
        exact law_needAt k12 X hX hbl (by omega) (by omega) h1 h2 h3 hJ fS aS bS fM aM bM hI K hl
      · refine lv_tableIn (tgt := 840) (off := 801) hx hb dL_law_39 (by decide) (by decide) (by decide) (by decide) ?_
        exact law_fills k13 X hX hbl (by omega) (by omega) h1 h2 h3 hJ fS aS bS fM aM bM hI K hl
      · refine lv_tableIn (tgt := 896) (off := 857) hx hb dL_law_39 (by decide) (by decide) (by decide) (by decide) ?_
        exact law_sum k14 X hX hbl (by omega) (by omega) h1 h2 h3 hJ fS aS bS fM aM bM hI K hl
      · refine lv_tableIn (tgt := 952) (off := 913) hx hb dL_law_39 (by decide) (by decide) (by decide) (by decide) ?_
        exact law_alternative k15 X hX hbl (by omega) (by omega) h1 h2 h3 hJ fS aS bS fM aM bM hI K hl
      · refine lv_tableIn (tgt := 1008) (off := 969) hx hb dL_law_39 (by decide) (by decide) (by decide) (by decide) ?_
        exact law_never k16 X hX hbl (by omega) (by omega) h1 h2 h3 hJ fS aS bS fM aM bM hI K hl
      · refine lv_tableOut (tgt := 1064) hx hb dL_law_39 (Or.inr (by rw [nI_toInt (by omega)]; omega)) (by decide) ?_
        refine W.widen (k := C0 + 8 * j + 8) (n := S0 + 48 * j + 48) (by omega) (by omega) ?_
        exact hJ fS aS bS fM aM bM hI _ _ K _ hl
