def zclsR (E : ZEv) (M : ZMem) : Nat → List ZEnt → va_W
  | _, [] => []
  | k, t :: r => (E.2.2.1 k, zrnE E M k t) :: zclsR E M (k + 1) r
theorem zclsR_get (E : ZEv) (M : ZMem) : ∀ (ly : List ZEnt) (k i : Nat), (zclsR E M k ly)[i]? = ly[i]?.map (fun t => (E.2.2.1 (k + i), zrnE E M (k + i) t))
  | [], k, i => by simp [zclsR]
  | t :: r, k, 0 => by simp [zclsR]
  | t :: r, k, i + 1 => by
    show (zclsR E M (k + 1) r)[i]? = _
    rw [zclsR_get E M r (k + 1) i, show k + 1 + i = k + (i + 1) by omega]
    rfl
theorem zcls_R (ly : List ZEnt) (E : ZEv) (M : ZMem) : zcls ly E M = zclsR E M 0 ly := by
  apply List.ext_getElem?
  intro i
  rw [zclsR_get, Nat.zero_add]
  unfold zcls
  rw [List.getElem?_mapIdx]
theorem zc_cons {E : ZEv} {M : ZMem} {k a : Nat} {x : va_E} {t : ZEnt} {r : List ZEnt} {w : va_W} (h1 : E.2.2.1 k = a) (h2 : zrnE E M k t = x) (h3 : w = zclsR E M (k + 1) r) : (a, x) :: w = zclsR E M k (t :: r) := by
  subst h1 h2 h3
  rfl
def zrnFR (E : ZEv) (f : Nat → Int32) : Nat → List (Option Nat) → List Value
  | _, [] => []
  | k, o :: r => zfv E f k o :: zrnFR E f (k + 1) r
theorem zrnFR_get (E : ZEv) (f : Nat → Int32) : ∀ (fl : List (Option Nat)) (k i : Nat), (zrnFR E f k fl)[i]? = fl[i]?.map (fun o => zfv E f (k + i) o)
  | [], k, i => by simp [zrnFR]
  | t :: r, k, 0 => by simp [zrnFR]
  | t :: r, k, i + 1 => by
    show (zrnFR E f (k + 1) r)[i]? = _
    rw [zrnFR_get E f r (k + 1) i, show k + 1 + i = k + (i + 1) by omega]
    rfl
theorem zrnF_R (E : ZEv) (f : Nat → Int32) (fl : List (Option Nat)) : zrnF E f fl = zrnFR E f 0 fl := by
  apply List.ext_getElem?
  intro i
  rw [zrnFR_get, Nat.zero_add]
  unfold zrnF
  rw [List.getElem?_mapIdx]
theorem zf_cons {E : ZEv} {f : Nat → Int32} {k : Nat} {v : Value} {o : Option Nat} {r : List (Option Nat)} {w : List Value} (h1 : zfv E f k o = v) (h2 : w = zrnFR E f (k + 1) r) : v :: w = zrnFR E f k (o :: r) := by
  subst h1 h2
  rfl
theorem zc_consO {E : ZEv} {M : ZMem} {k a ci : Nat} {fs : List Value} {fl : List (Option Nat)} {r : List ZEnt} {w : va_W} (h1 : E.2.2.1 k = a) (h2 : fs = zrnFR E (M.1 k) 0 fl) (h3 : w = zclsR E M (k + 1) r) : (a, .inr (ci, fs)) :: w = zclsR E M k (.inr (ci, fl) :: r) := by
  subst h1 h3
  rw [h2, ← zrnF_R]
  rfl
/-- all nothing -/
def zMZ : ZMem := (fun _ _ => 0, fun _ _ => 0)
def zM0C (MH : ZMem) : ZMem := (fun q => if q < 20 then (if q = 0 then (fun k => if k = 13 then 1 else 0) else fun _ => 0) else if q < 30 then MH.1 (q - 20) else if q = 45 then (fun k => if k = 0 then 1 else 0) else fun _ => 0, fun _ _ => 0)
/-- what startAnew leaves in a new Hand, clearsTold in a new reference -/
def zKH (M : ZMem) : Prop := M.1 1 0 = 2 ∧ M.1 1 1 = 3 ∧ M.1 1 2 = 2 ∧ (∀ k, k < 400 → M.1 2 k = 0) ∧ (∀ k, k < 20 → M.1 6 k = -1) ∧ M.1 0 9 = 0 ∧ M.1 0 10 = 0 ∧ M.1 0 11 = 0 ∧ M.2 = zMZ.2
def zKR (M : ZMem) : Prop := (∀ q, q ≠ 9 → q ≠ 0 → M.1 q = fun _ => 0) ∧ (∀ k, M.1 0 k = 0) ∧ M.1 9 0 = 2 ∧ M.1 9 1 = 3 ∧ M.1 9 2 = 2 ∧ M.1 9 3 = 0 ∧ (∀ k, k < 20 → M.1 9 (4 + k) = -1) ∧ (∀ k, 24 ≤ k → k < 460 → M.1 9 k = 0)

noncomputable def f_X1_startAnewH (M : ZMem) : Option ZMem := zbnd (zstI M 1 (zix (zI 0)) (zI 2)) (fun M_6 => zbnd (zstI M_6 1 (zix (zI 1)) (zI 3)) (fun M_13 => zbnd (zstI M_13 1 (zix (zI 2)) (zI 2)) (fun M_20 => zbind (f_J7_fill_53178 2 400 M_20 (zI 0)) (fun M_26 => zbind (f_J7_fill_53178 6 20 M_26 (zI (-1))) (fun M_34 => zbnd (zstI M_34 0 9 (zI 0)) (fun M_39 => zbnd (zstI M_39 0 10 (zI 0)) (fun M_44 => zbnd (zstI M_44 0 11 (zI 0)) (fun M_49 => some M_49))))))))
set_option maxRecDepth 100000 in
set_option maxHeartbeats 4000000 in
theorem c_X1_startAnewH (E : ZEv) (M : ZMem) (K : ZMem → Prop) (hk : zOk (f_X1_startAnewH M) K) : zCon lyH E yX1_startAnew cX1_startAnew 1 none 1 [zrf E 0] M (zRv K) := by
  refine zcon_of (L0 := [(0, zrf E 0)]) (by decide) rfl (Nat.le_of_ble_eq_true rfl) (fun G h => ?_)
  have h : zRu lyH E G (zRv K) cX1_startAnew RX1 1 none 1 := h
  unfold f_X1_startAnewH at hk
  refine zr_aload_n h dX1_startAnew_0 0 rfl rfl ?_
  refine zr_getR h zfo_X1_9 lH_0 rfl dX1_startAnew_1 ?_
  refine zr_iconst (v := (zI 0)) h dX1_startAnew_4 rfl ?_
  refine zr_iconst (v := (zI 2)) h dX1_startAnew_5 rfl ?_
  refine zr_iast h lH_1 (by decide) dX1_startAnew_6 ?_
  refine zr_mem (fun M_6 eM => ?_)
  have hk := zOk_bnd eM hk
  refine zr_aload_n h dX1_startAnew_7 0 rfl rfl ?_
  refine zr_getR h zfo_X1_9 lH_0 rfl dX1_startAnew_8 ?_
  refine zr_iconst (v := (zI 1)) h dX1_startAnew_11 rfl ?_
  refine zr_iconst (v := (zI 3)) h dX1_startAnew_12 rfl ?_
  refine zr_iast h lH_1 (by decide) dX1_startAnew_13 ?_
  refine zr_mem (fun M_13 eM => ?_)
  have hk := zOk_bnd eM hk
  refine zr_aload_n h dX1_startAnew_14 0 rfl rfl ?_
  refine zr_getR h zfo_X1_9 lH_0 rfl dX1_startAnew_15 ?_
  refine zr_iconst (v := (zI 2)) h dX1_startAnew_18 rfl ?_
  refine zr_iconst (v := (zI 2)) h dX1_startAnew_19 rfl ?_
  refine zr_iast h lH_1 (by decide) dX1_startAnew_20 ?_
  refine zr_mem (fun M_20 eM => ?_)
  have hk := zOk_bnd eM hk
  refine zr_aload_n h dX1_startAnew_21 0 rfl rfl ?_
  refine zr_getR h zfo_X1_15 lH_0 rfl dX1_startAnew_22 ?_
  refine zr_iconst (v := (zI 0)) h dX1_startAnew_25 rfl ?_
  refine zr_callSv h zcw_X1_43 (by decide) (c_J7_fill_53178 E 2 400 lH_2 M_20 (zI 0) _ (zOk_bind hk)) rfl rfl (Nat.le_of_ble_eq_true rfl) dX1_startAnew_26 (fun M_26 hk => ?_)
  refine zr_aload_n h dX1_startAnew_29 0 rfl rfl ?_
  refine zr_getR h zfo_X1_28 lH_0 rfl dX1_startAnew_30 ?_
  refine zr_iconst (v := (zI (-1))) h dX1_startAnew_33 rfl ?_
  refine zr_callSv h zcw_X1_43 (by decide) (c_J7_fill_53178 E 6 20 lH_6 M_26 (zI (-1)) _ (zOk_bind hk)) rfl rfl (Nat.le_of_ble_eq_true rfl) dX1_startAnew_34 (fun M_34 hk => ?_)
  refine zr_aload_n h dX1_startAnew_37 0 rfl rfl ?_
  refine zr_iconst (v := (zI 0)) h dX1_startAnew_38 rfl ?_
  refine zr_putI h zfp_X1_49 lH_0 rfl dX1_startAnew_39 ?_
  refine zr_mem (fun M_39 eM => ?_)
  have hk := zOk_bnd eM hk
  refine zr_aload_n h dX1_startAnew_42 0 rfl rfl ?_
  refine zr_iconst (v := (zI 0)) h dX1_startAnew_43 rfl ?_
  refine zr_putI h zfp_X1_53 lH_0 rfl dX1_startAnew_44 ?_
  refine zr_mem (fun M_44 eM => ?_)
  have hk := zOk_bnd eM hk
  refine zr_aload_n h dX1_startAnew_47 0 rfl rfl ?_
  refine zr_iconst (v := (zI 0)) h dX1_startAnew_48 rfl ?_
  refine zr_putI h zfp_X1_56 lH_0 rfl dX1_startAnew_49 ?_
  refine zr_mem (fun M_49 eM => ?_)
  have hk := zOk_bnd eM hk
  have hk := zOk_some hk
  exact zr_vret h dX1_startAnew_52 ⟨rfl, hk⟩
