theorem zapp_map {α : Type} (a b : List α) (n : Nat) (hn : n = a.length) : (List.range n).map (fun i => (a ++ b)[i]?) = a.map some := by
  subst hn
  apply List.ext_getElem?
  intro i
  rw [List.getElem?_map, List.getElem?_map]
  by_cases hi : i < a.length
  · rw [List.getElem?_range hi]
    simp [List.getElem?_append_left hi, hi]
  · rw [List.getElem?_eq_none (by simpa using hi), List.getElem?_eq_none (by simpa using hi)]
    rfl
theorem zapp_last {α : Type} (a : List α) (x : α) (n : Nat) (hn : n = a.length) : (a ++ [x])[n]? = some x := by
  subst hn
  simp
theorem zP_left {D : va_G} {cl : List vw_C} {a b : va_W} {H : Heap} (h : va_P D cl (a ++ b) H) : va_P D cl a H := fun k q hq => h k q (by rw [List.getElem?_append_left (List.getElem?_eq_some_iff.mp hq).1]; exact hq)
theorem zP_right {D : va_G} {cl : List vw_C} {a b : va_W} {H : Heap} (h : va_P D cl (a ++ b) H) : va_P D cl b H := fun k q hq => h (a.length + k) q (by rw [List.getElem?_append_right (Nat.le_add_right _ _), Nat.add_sub_cancel_left]; exact hq)
theorem zD_inj1 {A : Nat → Prop} {ly : List ZEnt} {E : ZEv} {M : ZMem} {w : va_W} (h : va_D A (zcls ly E M ++ w)) : zInj ly E := by
  intro i j hi hj e
  refine h.1 i j (E.2.2.1 i, zrnE E M i ly[i]) (E.2.2.1 j, zrnE E M j ly[j]) ?_ ?_ e
  · rw [List.getElem?_append_left (by rw [zcls_len]; exact hi)]
    exact zcls_get (List.getElem?_eq_getElem hi)
  · rw [List.getElem?_append_left (by rw [zcls_len]; exact hj)]
    exact zcls_get (List.getElem?_eq_getElem hj)
theorem zD_inj2 {A : Nat → Prop} {ly : List ZEnt} {E : ZEv} {M : ZMem} {w : va_W} (h : va_D A (w ++ zcls ly E M)) : zInj ly E := by
  intro i j hi hj e
  have := h.1 (w.length + i) (w.length + j) _ _ (by rw [List.getElem?_append_right (Nat.le_add_right _ _), Nat.add_sub_cancel_left]; exact zcls_get (List.getElem?_eq_getElem hi)) (by rw [List.getElem?_append_right (Nat.le_add_right _ _), Nat.add_sub_cancel_left]; exact zcls_get (List.getElem?_eq_getElem hj)) e
  omega
theorem zD_in1 {A : Nat → Prop} {ly : List ZEnt} {E : ZEv} {M : ZMem} {w : va_W} (h : va_D A (zcls ly E M ++ w)) : ∀ q, zAW ly E q → A q := by
  rintro q ⟨k, hk, rfl⟩
  exact h.2 k _ (by rw [List.getElem?_append_left (by rw [zcls_len]; exact hk)]; exact zcls_get (List.getElem?_eq_getElem hk))
theorem zD_in2 {A : Nat → Prop} {ly : List ZEnt} {E : ZEv} {M : ZMem} {w : va_W} (h : va_D A (w ++ zcls ly E M)) : ∀ q, zAW ly E q → A q := by
  rintro q ⟨k, hk, rfl⟩
  exact h.2 (w.length + k) _ (by rw [List.getElem?_append_right (Nat.le_add_right _ _), Nat.add_sub_cancel_left]; exact zcls_get (List.getElem?_eq_getElem hk))
theorem zD_apart {A : Nat → Prop} {ly ly' : List ZEnt} {E E' : ZEv} {M M' : ZMem} (h : va_D A (zcls ly E M ++ zcls ly' E' M')) : ∀ q, zAW ly E q → zAW ly' E' q → False := by
  rintro q ⟨k, hk, rfl⟩ ⟨j, hj, e⟩
  have := h.1 k ((zcls ly E M).length + j) _ _ (by rw [List.getElem?_append_left (by rw [zcls_len]; exact hk)]; exact zcls_get (List.getElem?_eq_getElem hk)) (by rw [List.getElem?_append_right (Nat.le_add_right _ _), Nat.add_sub_cancel_left]; exact zcls_get (List.getElem?_eq_getElem hj)) e
  rw [zcls_len] at this
  omega
theorem zarr_of {args : Array Value} {s : State} {ty : FieldType} (hra : ∀ cA : ClassId, s.vm.findClass ("[" ++ ty.toString) = some cA → va_RA s cA ty) (h : (Cond.arrayClass ty).before args s = true) : ∃ cA : ClassId, ArrOfT s cA ty ∧ va_RA s cA ty := by
  obtain ⟨cA, kA, comp, h1, h2, h3⟩ := Cond.arrayClass_spec h
  exact ⟨cA, fun n z => ⟨fun k h => (by cases h), kA, h2, comp, h3⟩, hra cA h1⟩
set_option maxRecDepth 100000 in
set_option maxHeartbeats 4000000 in
theorem zKall {args : Array Value} {s : State} (hts : ∀ w ∈ wsL_law, w.before args s = true) (l : Launch) : ∃ E : ZEv, E.1 = l ∧ va_K E.2.1 vwCl (ztys E) s := by
  obtain ⟨c0, i0, hk0⟩ := u_known (C := RX0) (T := TX0) (N := 12) (n := 12) hts inlX0 (hts _ (zm_1 _ (List.mem_of_getElem? (i := 17) rfl)))
  obtain ⟨c1, i1, hk1⟩ := u_known (C := RX1) (T := TX1) (N := 12) (n := 12) hts inlX1 (hts _ (zm_2 _ (List.mem_of_getElem? (i := 5) rfl)))
  obtain ⟨c2, i2, hk2⟩ := u_known (C := RX2) (T := TX2) (N := 9) (n := 9) hts inlX2 (hts _ (zm_2 _ (List.mem_of_getElem? (i := 13) rfl)))
  obtain ⟨c3, i3, hk3⟩ := u_known (C := RX3) (T := TX3) (N := 9) (n := 9) hts inlX3 (hts _ (zm_3 _ (List.mem_of_getElem? (i := 2) rfl)))
  obtain ⟨c4, i4, hk4⟩ := u_known (C := RX4) (T := TX4) (N := 3) (n := 3) hts inlX4 (hts _ (zm_2 _ (List.mem_of_getElem? (i := 1) rfl)))
  obtain ⟨c5, i5, hk5⟩ := u_known (C := RX5) (T := TX5) (N := 4) (n := 4) hts inlX5 (hts _ (zm_2 _ (List.mem_of_getElem? (i := 17) rfl)))
  obtain ⟨c6, i6, hk6⟩ := u_known (C := RX6) (T := TX6) (N := 9) (n := 9) hts inlX6 (hts _ (zm_2 _ (List.mem_of_getElem? (i := 9) rfl)))
  obtain ⟨c7, i7, hk7⟩ := u_known (C := RX7) (T := TX7) (N := 10) (n := 10) hts inlX7 (hts _ (zm_1 _ (List.mem_of_getElem? (i := 21) rfl)))
  obtain ⟨c8, i8, hk8⟩ := u_known (C := RX8) (T := TX8) (N := 2) (n := 2) hts inlX8 (hts _ (zm_1 _ (List.mem_of_getElem? (i := 13) rfl)))
  obtain ⟨c9, i9, hk9⟩ := u_known (C := RX9) (T := TX9) (N := 7) (n := 7) hts inlX9 (hts _ (zm_2 _ (List.mem_of_getElem? (i := 22) rfl)))
  obtain ⟨c10, i10, hk10⟩ := u_known (C := RX10) (T := TX10) (N := 10) (n := 10) hts inlX10 (hts _ (zm_3 _ (List.mem_of_getElem? (i := 6) rfl)))
  obtain ⟨c11, i11, hk11⟩ := u_known (C := RX11) (T := TX11) (N := 16) (n := 16) hts inlX11 (hts _ (zm_1 _ (List.mem_of_getElem? (i := 1) rfl)))
  obtain ⟨c12, i12, hk12⟩ := u_known (C := RX12) (T := TX12) (N := 46) (n := 46) hts inlX12 (hts _ (zm_1 _ (List.mem_of_getElem? (i := 4) rfl)))
  obtain ⟨cyI, hI1, hI2⟩ := zarr_of (ty := .int) (fun _ h => h) (hts _ (zm_3 _ (List.mem_of_getElem? (i := 13) rfl)))
  obtain ⟨cyZ, hZ1, hZ2⟩ := zarr_of (ty := .boolean) (fun _ h => h) (hts _ (zm_4 _ (List.mem_of_getElem? (i := 22) rfl)))
  obtain ⟨cyB, hB1, hB2⟩ := zarr_of (ty := .byte) (fun _ h => h) (hts _ (zm_8 _ (List.mem_of_getElem? (i := 2) rfl)))
  obtain ⟨cyJ, hJ1, hJ2⟩ := zarr_of (ty := .long) (fun _ h => h) (hts _ (zm_6 _ (List.mem_of_getElem? (i := 0) rfl)))
  refine ⟨(l, (fun k => if k = 0 then c0 else if k = 1 then c1 else if k = 2 then c2 else if k = 3 then c3 else if k = 4 then c4 else if k = 5 then c5 else if k = 6 then c6 else if k = 7 then c7 else if k = 8 then c8 else if k = 9 then c9 else if k = 10 then c10 else if k = 11 then c11 else c12, fun k => if k = 0 then i0 else if k = 1 then i1 else if k = 2 then i2 else if k = 3 then i3 else if k = 4 then i4 else if k = 5 then i5 else if k = 6 then i6 else if k = 7 then i7 else if k = 8 then i8 else if k = 9 then i9 else if k = 10 then i10 else if k = 11 then i11 else i12), fun _ => 0, fun t => if t = 0 then cyI else if t = 1 then cyZ else if t = 2 then cyB else cyJ), rfl, ?_, ?_⟩
  · intro k q hq
    match k, hq with
    | 0, hq => cases hq; exact hk0
    | 1, hq => cases hq; exact hk1
    | 2, hq => cases hq; exact hk2
    | 3, hq => cases hq; exact hk3
    | 4, hq => cases hq; exact hk4
    | 5, hq => cases hq; exact hk5
    | 6, hq => cases hq; exact hk6
    | 7, hq => cases hq; exact hk7
    | 8, hq => cases hq; exact hk8
    | 9, hq => cases hq; exact hk9
    | 10, hq => cases hq; exact hk10
    | 11, hq => cases hq; exact hk11
    | 12, hq => cases hq; exact hk12
    | k + 13, hq => simp [vwCl] at hq
  · intro k q hq
    match k, hq with
    | 0, hq => cases hq; exact ⟨hI1, hI2⟩
    | 1, hq => cases hq; exact ⟨hZ1, hZ2⟩
    | 2, hq => cases hq; exact ⟨hB1, hB2⟩
    | 3, hq => cases hq; exact ⟨hJ1, hJ2⟩
    | k + 4, hq => simp at hq
set_option maxRecDepth 100000 in
set_option maxHeartbeats 4000000 in
theorem zTall {b : Nat} {s : State} (hts : ∀ w ∈ lw_tbl, w.before #[Value.ref b] s = true) (hgv : (Jvm.Cond.and given_1 narrow_1).before #[Value.ref b] s = true) (E : ZEv) : ∃ tx : Nat → Nat, zNW (zA0 s) (zad E tx) s := by
  have hs := flat_of_before _ hgv
  have hA : ∀ a : Nat, a < s.heap.size → ¬ zA0 s a := fun a h1 h2 => Nat.lt_irrefl _ (Nat.lt_of_lt_of_le h1 h2)
  obtain ⟨adK, adV, hS, hev⟩ := vk_Sof (args := #[Value.ref b]) (s := s) (N := 2) (tm := fun i => if i = 0 then (.string "UnreadSigns$Names" 31) else (.string "UnreadSigns$Names" 41)) (len := zLen) (byt := zByt) (A := zA0 s) (fun i hi => match i, hi with
    | 0, _ => by decide
    | 1, _ => by decide) (fun i hi => match i, hi with
    | 0, _ => (hs (.exactly (.string "UnreadSigns$Names" 31) "java/lang/String") (by decide +kernel))
    | 1, _ => (hs (.exactly (.string "UnreadSigns$Names" 41) "java/lang/String") (by decide +kernel))) (fun i hi => match i, hi with
    | 0, _ => (hs (.eq (.field (.string "UnreadSigns$Names" 31) "java/lang/String" "coder" "B") (.int 0)) (by decide +kernel))
    | 1, _ => (hs (.eq (.field (.string "UnreadSigns$Names" 41) "java/lang/String" "coder" "B") (.int 0)) (by decide +kernel))) (fun i hi => match i, hi with
    | 0, _ => (hs (.arrayOf (.field (.string "UnreadSigns$Names" 31) "java/lang/String" "value" "[B") .byte) (by decide +kernel))
    | 1, _ => (hs (.arrayOf (.field (.string "UnreadSigns$Names" 41) "java/lang/String" "value" "[B") .byte) (by decide +kernel))) (fun i hi => match i, hi with
    | 0, _ => (hs (.eq (.length (.field (.string "UnreadSigns$Names" 31) "java/lang/String" "value" "[B")) (.int 10)) (by decide +kernel))
    | 1, _ => (hs (.eq (.length (.field (.string "UnreadSigns$Names" 41) "java/lang/String" "value" "[B")) (.int 5)) (by decide +kernel))) (fun i hi j hj => match i, hi with
    | 0, _ => match j, hj with
      | 0, _ => (hs (.eq (.elem (.field (.string "UnreadSigns$Names" 31) "java/lang/String" "value" "[B") (.int 0)) (.int 112)) (by decide +kernel))
      | 1, _ => (hs (.eq (.elem (.field (.string "UnreadSigns$Names" 31) "java/lang/String" "value" "[B") (.int 1)) (.int 116)) (by decide +kernel))
      | 2, _ => (hs (.eq (.elem (.field (.string "UnreadSigns$Names" 31) "java/lang/String" "value" "[B") (.int 2)) (.int 107)) (by decide +kernel))
      | 3, _ => (hs (.eq (.elem (.field (.string "UnreadSigns$Names" 31) "java/lang/String" "value" "[B") (.int 3)) (.int 109)) (by decide +kernel))
      | 4, _ => (hs (.eq (.elem (.field (.string "UnreadSigns$Names" 31) "java/lang/String" "value" "[B") (.int 4)) (.int 110)) (by decide +kernel))
      | 5, _ => (hs (.eq (.elem (.field (.string "UnreadSigns$Names" 31) "java/lang/String" "value" "[B") (.int 5)) (.int 114)) (by decide +kernel))
      | 6, _ => (hs (.eq (.elem (.field (.string "UnreadSigns$Names" 31) "java/lang/String" "value" "[B") (.int 6)) (.int 108)) (by decide +kernel))
      | 7, _ => (hs (.eq (.elem (.field (.string "UnreadSigns$Names" 31) "java/lang/String" "value" "[B") (.int 7)) (.int 115)) (by decide +kernel))
      | 8, _ => (hs (.eq (.elem (.field (.string "UnreadSigns$Names" 31) "java/lang/String" "value" "[B") (.int 8)) (.int 119)) (by decide +kernel))
      | 9, _ => (hs (.eq (.elem (.field (.string "UnreadSigns$Names" 31) "java/lang/String" "value" "[B") (.int 9)) (.int 106)) (by decide +kernel))
      | j + 10, hj => by simp [zLen] at hj; omega
    | 1, _ => match j, hj with
      | 0, _ => (hs (.eq (.elem (.field (.string "UnreadSigns$Names" 41) "java/lang/String" "value" "[B") (.int 0)) (.int 97)) (by decide +kernel))
      | 1, _ => (hs (.eq (.elem (.field (.string "UnreadSigns$Names" 41) "java/lang/String" "value" "[B") (.int 1)) (.int 101)) (by decide +kernel))
      | 2, _ => (hs (.eq (.elem (.field (.string "UnreadSigns$Names" 41) "java/lang/String" "value" "[B") (.int 2)) (.int 105)) (by decide +kernel))
      | 3, _ => (hs (.eq (.elem (.field (.string "UnreadSigns$Names" 41) "java/lang/String" "value" "[B") (.int 3)) (.int 111)) (by decide +kernel))
      | 4, _ => (hs (.eq (.elem (.field (.string "UnreadSigns$Names" 41) "java/lang/String" "value" "[B") (.int 4)) (.int 117)) (by decide +kernel))
      | j + 5, hj => by simp [zLen] at hj; omega) (fun i j hi hj hne => match i, hi, j, hj with
    | 0, _, 0, _ => absurd rfl hne
    | 1, _, 1, _ => absurd rfl hne
    | 0, _, 1, _ => Or.inl (hs (.not (.eq (.string "UnreadSigns$Names" 31) (.string "UnreadSigns$Names" 41))) (by decide +kernel))
    | 1, _, 0, _ => Or.inr (hs (.not (.eq (.string "UnreadSigns$Names" 31) (.string "UnreadSigns$Names" 41))) (by decide +kernel))) hA
  have e0 : (Term.string "UnreadSigns$Names" 31).eval #[Value.ref b] s none [] s = some (.ref (adK 0)) := hev 0 (by decide)
  have e1 : (Term.string "UnreadSigns$Names" 41).eval #[Value.ref b] s none [] s = some (.ref (adK 1)) := hev 1 (by decide)
  have e2 := va_eqR (hs (.eq (.string "UnreadSigns$Names" 31) (.string "UnreadSignsModel" 197)) (by decide +kernel)) e0
  have e3 := va_eqR (hs (.eq (.string "UnreadSigns$Names" 41) (.string "UnreadSignsModel" 206)) (by decide +kernel)) e1
  have hZ := va_Zof (A := zA0 s) (hts (.laysStatic "java/lang/String" "COMPACT_STRINGS" "Z") (List.mem_of_getElem? (i := 730) (by decide +kernel))) (hts (.initialized "java/lang/String") (List.mem_of_getElem? (i := 142) (by decide +kernel))) (va_eqi (hs (.eq (.static "java/lang/String" "COMPACT_STRINGS" "Z") (.int 1)) (by decide +kernel))) hA
  have hQ := va_Zqof (A := zA0 s) (hts (.laysStatic "jdk/internal/util/Preconditions" "SIOOBE_FORMATTER" "Ljava/util/function/BiFunction;") (List.mem_of_getElem? (i := 769) (by decide +kernel))) (hts (.initialized "jdk/internal/util/Preconditions") (List.mem_of_getElem? (i := 145) (by decide +kernel))) (hs (.isRef (.static "jdk/internal/util/Preconditions" "SIOOBE_FORMATTER" "Ljava/util/function/BiFunction;")) (by decide +kernel)) hA
  have hnw : ∀ w ∈ znest, va_Nw w s := by
    intro w hw
    have h1 := hts w (znest_in w hw)
    simp only [znest, List.mem_cons, List.not_mem_nil, or_false] at hw
    rcases hw with rfl | rfl | rfl | rfl | rfl | rfl | rfl | rfl | rfl | rfl | rfl | rfl | rfl | rfl | rfl <;> exact va_Nw.of rfl h1
  obtain ⟨z, hz⟩ : ∃ z : Nat, va_Z "jdk/internal/util/Preconditions" "SIOOBE_FORMATTER" "Ljava/util/function/BiFunction;" (if z = 0 then .null else .ref (z - 1)) (zA0 s) s s.heap := by
    rcases hQ with hQ | ⟨t, hQ⟩
    · exact ⟨0, hQ⟩
    · exact ⟨t + 1, hQ⟩
  refine ⟨fun k => if k = 1004 then z else if k < 1002 then adK (k - 1000) else adV (k - 1002), hnw, ?_, ?_, ?_, ?_, ?_, ?_, ?_⟩
  · have f0 : ∀ i : Nat, i < 2 → (fun i => (zad E (fun k => if k = 1004 then z else if k < 1002 then adK (k - 1000) else adV (k - 1002))).2.2.1 (1000 + i)) i = adK i := by
      intro i hi
      show (if 1000 + i = 1004 then z else if 1000 + i < 1002 then adK (1000 + i - 1000) else adV (1000 + i - 1002)) = adK i
      rw [if_neg (by omega), if_pos (by omega), Nat.add_sub_cancel_left]
    have f1 : ∀ i : Nat, i < 2 → (fun i => (zad E (fun k => if k = 1004 then z else if k < 1002 then adK (k - 1000) else adV (k - 1002))).2.2.1 (1002 + i)) i = adV i := by
      intro i hi
      show (if 1002 + i = 1004 then z else if 1002 + i < 1002 then adK (1002 + i - 1000) else adV (1002 + i - 1002)) = adV i
      rw [if_neg (by omega), if_neg (by omega), Nat.add_sub_cancel_left]
    refine ⟨fun i hi => ?_, fun i j hi hj e => ?_⟩
    · rw [f0 i hi, f1 i hi]
      exact hS.1 i hi
    · rw [f0 i hi, f0 j hj] at e
      exact hS.2 i j hi hj e
  · exact vk_R.of (hts _ (List.mem_of_getElem? (i := 713) (by decide +kernel))) e0
  · exact vk_R.of (hts _ (List.mem_of_getElem? (i := 799) (by decide +kernel))) e1
  · exact vk_R.of (hts _ (List.mem_of_getElem? (i := 1766) (by decide +kernel))) e2
  · exact vk_R.of (hts _ (List.mem_of_getElem? (i := 1792) (by decide +kernel))) e3
  · exact hZ
  · exact hz
set_option maxRecDepth 100000 in
set_option maxHeartbeats 4000000 in
/-- the law's body, over what is owed of each two methods -/
theorem zwhole {Rel : ZMem → ZMem → Prop} (hp : zPairs Rel) (h0 : ∀ MH M2 : ZMem, zKH MH → zKR M2 → Rel (zM0C MH) M2) {p : Program} {e : Env} {s : State} {m : MethodId} {below : List Frame} {meth : Method} {c : Code} (l : Launch) {b L : Nat} {xs : Nat → Int32} (hL : L ≤ 3072) (C0 : lw_At p s m meth c b L xs) : W p l e room_1 s m #[Value.ref b] below meth c s.heap [] 0 0 (lw_Z below #[Value.ref b] s) (entryFrame m ([Value.ref b] : List Value).toArray 4) := by
  obtain ⟨hx, hb, hr, hml, hown, htsT, hX, hbl, hlocks, hgv⟩ := id C0
  have hts : ∀ w ∈ wsL_law, w.before #[Value.ref b] s = true := fun w h => htsT w (wsL_law_in w h)
  obtain ⟨E0, hE, hK⟩ := zKall hts l
  obtain ⟨tx, hN⟩ := zTall htsT hgv E0
  obtain ⟨E, hEe⟩ : ∃ E : ZEv, E = zad E0 tx := ⟨_, rfl⟩
  have hK : va_K E.2.1 vwCl (ztys E) s := by rw [hEe]; exact hK
  have hE : E.1 = l := by rw [hEe]; exact hE
  rw [← hEe] at hN
  clear hEe
  subst hE
  rw [lg_entry_eq]
  have hl := lv_entry ([.ref b]) (n := 4) (Nat.le_of_ble_eq_true rfl)
  generalize (lg_sl ([.ref b]) ++ List.replicate (4 - (lg_sl ([.ref b])).length) Slot.unset).toArray = ls at hl ⊢
  have hl : lv_has ls 4 [(0, .ref b)] := hl
  obtain ⟨G, hG⟩ : ∃ G : ZKG, G = zKW E room_1 (lw_Z below #[Value.ref b] s) (zA0 s) 4 p e s m #[Value.ref b] below meth c := ⟨_, rfl⟩
  have hz : zKu E G room_1 (lw_Z below #[Value.ref b] s) (zA0 s) code R_law 4 meth.name p e s m #[Value.ref b] below meth c := ⟨hG, hx, hb, hml, hown, hts, hK, hN, rfl, fun _ h => h⟩
  suffices hgo : G [] 0 0 0 [(0, .ref b)] [] by
    rw [hG] at hgo
    exact hgo s.heap [] ls (fun k q h => by simp at h) ⟨fun i j p q h => by simp at h, fun k q h => by simp at h⟩ va_S.rf hl
  refine zk_new (ci := 11) (fs := [.null, .null, .null, .null, .null, .null, .null, .null, .null, .null, .null, .null, .int 0, .int 0, .int 0, .int 0]) (own := R_law) hz rfl inlX11 tyX11 tyX11_ok (List.forall_mem_cons.mpr ⟨(zm_1 _ (List.mem_of_getElem? (i := 0) rfl)), (List.forall_mem_cons.mpr ⟨(zm_1 _ (List.mem_of_getElem? (i := 1) rfl)), (List.forall_mem_cons.mpr ⟨(zm_1 _ (List.mem_of_getElem? (i := 2) rfl)), (fun _ h => absurd h List.not_mem_nil)⟩)⟩)⟩) (fun j hj => by rcases (show j = 0 ∨ j = 1 ∨ j = 2 ∨ j = 3 ∨ j = 4 ∨ j = 5 ∨ j = 6 ∨ j = 7 ∨ j = 8 ∨ j = 9 ∨ j = 10 ∨ j = 11 ∨ j = 12 ∨ j = 13 ∨ j = 14 ∨ j = 15 by omega) with rfl | rfl | rfl | rfl | rfl | rfl | rfl | rfl | rfl | rfl | rfl | rfl | rfl | rfl | rfl | rfl <;> rfl) ⟨Nat.le_of_ble_eq_true rfl, Nat.le_of_ble_eq_true rfl⟩ dL_law_0 (fun q0 => ?_)
  refine zk_dup hz dL_law_3 rfl ?_
  refine zk_callI (As := []) (wc := [(q0, .inr (11, [.null, .null, .null, .null, .null, .null, .null, .null, .null, .null, .null, .null, .int 0, .int 0, .int 0, .int 0]))]) (wr := []) (own := R_law) hz (ci_X11 E q0) [0] [] rfl rfl rfl (by decide) (by decide) (by decide) (Or.inl (zm_1 _ (List.mem_of_getElem? (i := 6) rfl))) (List.forall_mem_cons.mpr ⟨(zm_1 _ (List.mem_of_getElem? (i := 2) rfl)), (List.forall_mem_cons.mpr ⟨(zm_1 _ (List.mem_of_getElem? (i := 7) rfl)), (List.forall_mem_cons.mpr ⟨(zm_1 _ (List.mem_of_getElem? (i := 8) rfl)), (fun _ h => absurd h List.not_mem_nil)⟩)⟩)⟩) rfl ⟨by decide, by decide, (by decide +kernel : (parseMethodDescriptor yX11_init.desc).map (fun d => d.parameters.length) = some 0)⟩ ⟨Nat.le_of_ble_eq_true rfl, Nat.le_of_ble_eq_true rfl⟩ rfl rfl (Nat.le_of_ble_eq_true rfl) ⟨Nat.le_of_ble_eq_true rfl, Nat.le_of_ble_eq_true rfl⟩ dL_law_4 (fun u1 hu1 => ?_)
  obtain ⟨rfl, ht1, hu1⟩ := hu1
  refine zk_astore_n (L' := [(0, .ref b), (1, .ref (u1.1 0))]) hz [1, 0] dL_law_7 rfl (by decide) rfl ?_
  refine zk_new (ci := 12) (fs := [.null, .int 0, .int 0, .int 0, .int 0, .int 0, .null, .null, .int 0, .null, .null, .null, .int 0, .null, .null, .null, .null, .int 0, .null, .int 0, .null, .null, .null, .int 0, .null, .int 0, .int 0, .null, .null, .null, .null, .null, .int 0, .null, .null, .null, .null, .null, .null, .null, .int 0, .int 0, .null, .null, .null, .int 0]) (own := R_law) hz rfl inlX12 tyX12 tyX12_ok (List.forall_mem_cons.mpr ⟨(zm_1 _ (List.mem_of_getElem? (i := 3) rfl)), (List.forall_mem_cons.mpr ⟨(zm_1 _ (List.mem_of_getElem? (i := 4) rfl)), (List.forall_mem_cons.mpr ⟨(zm_1 _ (List.mem_of_getElem? (i := 5) rfl)), (fun _ h => absurd h List.not_mem_nil)⟩)⟩)⟩) (fun j hj => by rcases (show j = 0 ∨ j = 1 ∨ j = 2 ∨ j = 3 ∨ j = 4 ∨ j = 5 ∨ j = 6 ∨ j = 7 ∨ j = 8 ∨ j = 9 ∨ j = 10 ∨ j = 11 ∨ j = 12 ∨ j = 13 ∨ j = 14 ∨ j = 15 ∨ j = 16 ∨ j = 17 ∨ j = 18 ∨ j = 19 ∨ j = 20 ∨ j = 21 ∨ j = 22 ∨ j = 23 ∨ j = 24 ∨ j = 25 ∨ j = 26 ∨ j = 27 ∨ j = 28 ∨ j = 29 ∨ j = 30 ∨ j = 31 ∨ j = 32 ∨ j = 33 ∨ j = 34 ∨ j = 35 ∨ j = 36 ∨ j = 37 ∨ j = 38 ∨ j = 39 ∨ j = 40 ∨ j = 41 ∨ j = 42 ∨ j = 43 ∨ j = 44 ∨ j = 45 by omega) with rfl | rfl | rfl | rfl | rfl | rfl | rfl | rfl | rfl | rfl | rfl | rfl | rfl | rfl | rfl | rfl | rfl | rfl | rfl | rfl | rfl | rfl | rfl | rfl | rfl | rfl | rfl | rfl | rfl | rfl | rfl | rfl | rfl | rfl | rfl | rfl | rfl | rfl | rfl | rfl | rfl | rfl | rfl | rfl | rfl | rfl <;> rfl) ⟨Nat.le_of_ble_eq_true rfl, Nat.le_of_ble_eq_true rfl⟩ dL_law_8 (fun q1 => ?_)
  refine zk_dup hz dL_law_11 rfl ?_
  refine zk_callI (As := []) (wc := [(q1, .inr (12, [.null, .int 0, .int 0, .int 0, .int 0, .int 0, .null, .null, .int 0, .null, .null, .null, .int 0, .null, .null, .null, .null, .int 0, .null, .int 0, .null, .null, .null, .int 0, .null, .int 0, .int 0, .null, .null, .null, .null, .null, .int 0, .null, .null, .null, .null, .null, .null, .null, .int 0, .int 0, .null, .null, .null, .int 0]))]) (wr := (zcls lyC (zad E u1.1) (zM0C u1.2))) (own := R_law) hz (ci_X12 E q1) [64] (List.range 64) (by simp only [List.map_cons, List.map_nil, List.nil_append]; rw [zapp_last _ _ _ (by rw [zcls_len]; rfl)]) (by simp only [List.filterMap_cons, List.filterMap_nil, List.nil_append]; rw [zapp_last _ _ _ (by rw [zcls_len]; rfl)]) (by simp only [List.nil_append]; exact zapp_map _ _ _ (by rw [zcls_len]; rfl)) (by decide) (by decide) (by decide) (Or.inl (zm_7 _ (List.mem_of_getElem? (i := 22) rfl))) (List.forall_mem_cons.mpr ⟨(zm_1 _ (List.mem_of_getElem? (i := 5) rfl)), (List.forall_mem_cons.mpr ⟨(zm_7 _ (List.mem_of_getElem? (i := 23) rfl)), (List.forall_mem_cons.mpr ⟨(zm_8 _ (List.mem_of_getElem? (i := 0) rfl)), (fun _ h => absurd h List.not_mem_nil)⟩)⟩)⟩) rfl ⟨by decide, by decide, (by decide +kernel : (parseMethodDescriptor yX12_init.desc).map (fun d => d.parameters.length) = some 0)⟩ ⟨Nat.le_of_ble_eq_true rfl, Nat.le_of_ble_eq_true rfl⟩ rfl rfl (Nat.le_of_ble_eq_true rfl) ⟨Nat.le_of_ble_eq_true rfl, Nat.le_of_ble_eq_true rfl⟩ dL_law_12 (fun u2 hu2 => ?_)
  obtain ⟨rfl, ht2, hu2⟩ := hu2
  refine zk_astore_n (L' := [(0, .ref b), (1, .ref (u1.1 0)), (2, .ref (u2.1 0))]) hz [1, 2, 0] dL_law_15 rfl (by decide) rfl ?_
  refine zk_iconst (v := 0) hz dL_law_16 (by decide) ?_
  rw [hG]
  intro H locs ls hP hD hS hl
  have hlu : zLu E u1.1 u2.1 (zLW E u1.1 u2.1 95 20171 p e s m b below meth c) b L xs 95 20171 := ⟨p, e, s, m, below, meth, c, rfl, ⟨Nat.le_of_ble_eq_true rfl, Nat.le_of_ble_eq_true rfl⟩, hx, hb, hml, hown, hts, hK, ⟨hN, ht1, ht2⟩, hr, hlocks, hX, hbl, zD_inj1 hD, zD_inj2 hD, zD_in1 hD, zD_in2 hD, zD_apart hD⟩
  have hgo := zl_istore_n (M1 := zM0C u1.2) (M2 := u2.2) (L := [(0, .ref b), (1, .ref (u1.1 0)), (2, .ref (u2.1 0))]) (L' := [(0, .ref b), (1, zrf (zad E u1.1) 0), (2, zrf (zad E u2.1) 0), (3, .int (nI 0))]) (st := []) (x := 0) hlu [1, 2, 3, 0] dL_law_17 rfl (by decide) rfl (zlaw_loop hlu hp hL (L + 6) 0 _ _ (by omega) (by omega) (h0 _ _ hu1 hu2))
  exact hgo H locs ls (zP_left hP) (zP_right hP) hS hl
