/-! cells: fields, arrays, new ones -/
theorem am_q_some {t : Nat} (h : t < 13) : vwCl[t]? = some (am_q t) := by
  unfold am_q
  rw [List.getD_eq_getElem?_getD, List.getElem?_eq_getElem (show t < vwCl.length from h)]
  rfl
theorem am_13 {P : Nat → Prop} (h0 : P 0) (h1 : P 1) (h2 : P 2) (h3 : P 3) (h4 : P 4) (h5 : P 5) (h6 : P 6) (h7 : P 7) (h8 : P 8) (h9 : P 9) (h10 : P 10) (h11 : P 11) (h12 : P 12) : ∀ t, t < 13 → P t := by
  intro t ht
  match t, ht with
  | 0, _ => exact h0
  | 1, _ => exact h1
  | 2, _ => exact h2
  | 3, _ => exact h3
  | 4, _ => exact h4
  | 5, _ => exact h5
  | 6, _ => exact h6
  | 7, _ => exact h7
  | 8, _ => exact h8
  | 9, _ => exact h9
  | 10, _ => exact h10
  | 11, _ => exact h11
  | 12, _ => exact h12
theorem am_hnm : ∀ t, t < 13 → ∀ a, a < (am_q t).2.2 → ∀ b, b < (am_q t).2.2 → a ≠ b → ((am_q t).2.1 a).2.1 ≠ ((am_q t).2.1 b).2.1 := am_13 nmX0 nmX1 nmX2 nmX3 nmX4 nmX5 nmX6 nmX7 nmX8 nmX9 nmX10 nmX11 nmX12
theorem am_ty_of {t : Nat} {ty : Nat → FieldType} (h : ∀ k, k < (am_q t).2.2 → parseFieldDescriptor ((am_q t).2.1 k).2.2.1 = some (ty k)) : ∀ k, k < (am_q t).2.2 → parseFieldDescriptor ((am_q t).2.1 k).2.2.1 = some (am_ty t k) := by
  intro k hk
  unfold am_ty
  rw [h k hk]
  rfl
theorem am_hty : ∀ t, t < 13 → ∀ k, k < (am_q t).2.2 → parseFieldDescriptor ((am_q t).2.1 k).2.2.1 = some (am_ty t k) :=
  am_13 (am_ty_of (t := 0) tyX0_ok) (am_ty_of (t := 1) tyX1_ok) (am_ty_of (t := 2) tyX2_ok) (am_ty_of (t := 3) tyX3_ok) (am_ty_of (t := 4) tyX4_ok) (am_ty_of (t := 5) tyX5_ok) (am_ty_of (t := 6) tyX6_ok) (am_ty_of (t := 7) tyX7_ok) (am_ty_of (t := 8) tyX8_ok) (am_ty_of (t := 9) tyX9_ok) (am_ty_of (t := 10) tyX10_ok) (am_ty_of (t := 11) tyX11_ok) (am_ty_of (t := 12) tyX12_ok)
theorem am_hin0 : ∀ w ∈ u_ws (am_q 0).1 (am_q 0).2.1 (am_q 0).2.2, w ∈ am_T := by
  have h : u_ws (am_q 0).1 (am_q 0).2.1 (am_q 0).2.2 = ([690, 691, 692, 693, 694] : List Nat).filterMap (fun i => lw_tbl[i]?) := by decide +kernel
  have hg : ∀ w ∈ u_ws (am_q 0).1 (am_q 0).2.1 (am_q 0).2.2, am_gw w = true := by decide +kernel
  intro w hw
  have hg1 := hg w hw
  rw [h] at hw
  obtain ⟨i, -, hi⟩ := List.mem_filterMap.mp hw
  exact am_in i hi hg1
theorem am_hin1 : ∀ w ∈ u_ws (am_q 1).1 (am_q 1).2.1 (am_q 1).2.2, w ∈ am_T := by
  have h : u_ws (am_q 1).1 (am_q 1).2.1 (am_q 1).2.2 = ([702, 703, 704, 705, 706] : List Nat).filterMap (fun i => lw_tbl[i]?) := by decide +kernel
  have hg : ∀ w ∈ u_ws (am_q 1).1 (am_q 1).2.1 (am_q 1).2.2, am_gw w = true := by decide +kernel
  intro w hw
  have hg1 := hg w hw
  rw [h] at hw
  obtain ⟨i, -, hi⟩ := List.mem_filterMap.mp hw
  exact am_in i hi hg1
theorem am_hin2 : ∀ w ∈ u_ws (am_q 2).1 (am_q 2).2.1 (am_q 2).2.2, w ∈ am_T := by
  have h : u_ws (am_q 2).1 (am_q 2).2.1 (am_q 2).2.2 = ([714, 715, 716, 717, 718] : List Nat).filterMap (fun i => lw_tbl[i]?) := by decide +kernel
  have hg : ∀ w ∈ u_ws (am_q 2).1 (am_q 2).2.1 (am_q 2).2.2, am_gw w = true := by decide +kernel
  intro w hw
  have hg1 := hg w hw
  rw [h] at hw
  obtain ⟨i, -, hi⟩ := List.mem_filterMap.mp hw
  exact am_in i hi hg1
theorem am_hin3 : ∀ w ∈ u_ws (am_q 3).1 (am_q 3).2.1 (am_q 3).2.2, w ∈ am_T := by
  have h : u_ws (am_q 3).1 (am_q 3).2.1 (am_q 3).2.2 = ([738, 739, 740, 741, 742] : List Nat).filterMap (fun i => lw_tbl[i]?) := by decide +kernel
  have hg : ∀ w ∈ u_ws (am_q 3).1 (am_q 3).2.1 (am_q 3).2.2, am_gw w = true := by decide +kernel
  intro w hw
  have hg1 := hg w hw
  rw [h] at hw
  obtain ⟨i, -, hi⟩ := List.mem_filterMap.mp hw
  exact am_in i hi hg1
theorem am_hin4 : ∀ w ∈ u_ws (am_q 4).1 (am_q 4).2.1 (am_q 4).2.2, w ∈ am_T := by
  have h : u_ws (am_q 4).1 (am_q 4).2.1 (am_q 4).2.2 = ([150, 152, 154, 156, 158, 160, 162, 164, 166] : List Nat).filterMap (fun i => lw_tbl[i]?) := by decide +kernel
  have hg : ∀ w ∈ u_ws (am_q 4).1 (am_q 4).2.1 (am_q 4).2.2, am_gw w = true := by decide +kernel
  intro w hw
  have hg1 := hg w hw
  rw [h] at hw
  obtain ⟨i, -, hi⟩ := List.mem_filterMap.mp hw
  exact am_in i hi hg1
theorem am_hin5 : ∀ w ∈ u_ws (am_q 5).1 (am_q 5).2.1 (am_q 5).2.2, w ∈ am_T := by
  have h : u_ws (am_q 5).1 (am_q 5).2.1 (am_q 5).2.2 = ([251, 253, 255, 257, 259] : List Nat).filterMap (fun i => lw_tbl[i]?) := by decide +kernel
  have hg : ∀ w ∈ u_ws (am_q 5).1 (am_q 5).2.1 (am_q 5).2.2, am_gw w = true := by decide +kernel
  intro w hw
  have hg1 := hg w hw
  rw [h] at hw
  obtain ⟨i, -, hi⟩ := List.mem_filterMap.mp hw
  exact am_in i hi hg1
theorem am_hin6 : ∀ w ∈ u_ws (am_q 6).1 (am_q 6).2.1 (am_q 6).2.2, w ∈ am_T := by
  have h : u_ws (am_q 6).1 (am_q 6).2.1 (am_q 6).2.2 = ([726, 727, 728, 729, 730] : List Nat).filterMap (fun i => lw_tbl[i]?) := by decide +kernel
  have hg : ∀ w ∈ u_ws (am_q 6).1 (am_q 6).2.1 (am_q 6).2.2, am_gw w = true := by decide +kernel
  intro w hw
  have hg1 := hg w hw
  rw [h] at hw
  obtain ⟨i, -, hi⟩ := List.mem_filterMap.mp hw
  exact am_in i hi hg1
theorem am_hin7 : ∀ w ∈ u_ws (am_q 7).1 (am_q 7).2.1 (am_q 7).2.2, w ∈ am_T := by
  have h : u_ws (am_q 7).1 (am_q 7).2.1 (am_q 7).2.2 = ([747, 748, 749, 750, 751] : List Nat).filterMap (fun i => lw_tbl[i]?) := by decide +kernel
  have hg : ∀ w ∈ u_ws (am_q 7).1 (am_q 7).2.1 (am_q 7).2.2, am_gw w = true := by decide +kernel
  intro w hw
  have hg1 := hg w hw
  rw [h] at hw
  obtain ⟨i, -, hi⟩ := List.mem_filterMap.mp hw
  exact am_in i hi hg1
theorem am_hin8 : ∀ w ∈ u_ws (am_q 8).1 (am_q 8).2.1 (am_q 8).2.2, w ∈ am_T := by
  have h : u_ws (am_q 8).1 (am_q 8).2.1 (am_q 8).2.2 = ([226, 228, 230, 232, 234, 236] : List Nat).filterMap (fun i => lw_tbl[i]?) := by decide +kernel
  have hg : ∀ w ∈ u_ws (am_q 8).1 (am_q 8).2.1 (am_q 8).2.2, am_gw w = true := by decide +kernel
  intro w hw
  have hg1 := hg w hw
  rw [h] at hw
  obtain ⟨i, -, hi⟩ := List.mem_filterMap.mp hw
  exact am_in i hi hg1
theorem am_hin9 : ∀ w ∈ u_ws (am_q 9).1 (am_q 9).2.1 (am_q 9).2.2, w ∈ am_T := by
  have h : u_ws (am_q 9).1 (am_q 9).2.1 (am_q 9).2.2 = ([673, 675, 677, 679, 681] : List Nat).filterMap (fun i => lw_tbl[i]?) := by decide +kernel
  have hg : ∀ w ∈ u_ws (am_q 9).1 (am_q 9).2.1 (am_q 9).2.2, am_gw w = true := by decide +kernel
  intro w hw
  have hg1 := hg w hw
  rw [h] at hw
  obtain ⟨i, -, hi⟩ := List.mem_filterMap.mp hw
  exact am_in i hi hg1
theorem am_hin10 : ∀ w ∈ u_ws (am_q 10).1 (am_q 10).2.1 (am_q 10).2.2, w ∈ am_T := by
  have h : u_ws (am_q 10).1 (am_q 10).2.1 (am_q 10).2.2 = ([190, 192, 194, 196, 198, 200, 202, 204, 206, 208, 210] : List Nat).filterMap (fun i => lw_tbl[i]?) := by decide +kernel
  have hg : ∀ w ∈ u_ws (am_q 10).1 (am_q 10).2.1 (am_q 10).2.2, am_gw w = true := by decide +kernel
  intro w hw
  have hg1 := hg w hw
  rw [h] at hw
  obtain ⟨i, -, hi⟩ := List.mem_filterMap.mp hw
  exact am_in i hi hg1
theorem am_hin11 : ∀ w ∈ u_ws (am_q 11).1 (am_q 11).2.1 (am_q 11).2.2, w ∈ am_T := by
  have h : u_ws (am_q 11).1 (am_q 11).2.1 (am_q 11).2.2 = ([276, 278, 280, 282, 284, 286, 288, 290, 292, 294, 296, 298, 300, 302] : List Nat).filterMap (fun i => lw_tbl[i]?) := by decide +kernel
  have hg : ∀ w ∈ u_ws (am_q 11).1 (am_q 11).2.1 (am_q 11).2.2, am_gw w = true := by decide +kernel
  intro w hw
  have hg1 := hg w hw
  rw [h] at hw
  obtain ⟨i, -, hi⟩ := List.mem_filterMap.mp hw
  exact am_in i hi hg1
theorem am_hin12 : ∀ w ∈ u_ws (am_q 12).1 (am_q 12).2.1 (am_q 12).2.2, w ∈ am_T := by
  have h : u_ws (am_q 12).1 (am_q 12).2.1 (am_q 12).2.2 = ([1322, 1324, 1326, 1328, 1330, 1332, 1334, 1336, 1338, 1340, 1342, 1344, 1346, 1348, 1350, 1352, 1354, 1356, 1358, 1360, 1362, 1364, 1366, 1368, 1370, 1372, 1374, 1376, 1378, 1380, 1382, 1384, 1386, 1388, 1390, 1392, 1394, 1396, 1398, 1400, 1402, 1404, 1406, 1408, 1410, 1412, 1414, 1416, 1418, 1420, 1422, 1424, 1426, 1428, 1430, 1432, 1434, 1436, 1438, 1440] : List Nat).filterMap (fun i => lw_tbl[i]?) := by decide +kernel
  have hg : ∀ w ∈ u_ws (am_q 12).1 (am_q 12).2.1 (am_q 12).2.2, am_gw w = true := by decide +kernel
  intro w hw
  have hg1 := hg w hw
  rw [h] at hw
  obtain ⟨i, -, hi⟩ := List.mem_filterMap.mp hw
  exact am_in i hi hg1
theorem am_hin : ∀ t, t < 13 → ∀ w ∈ u_ws (am_q t).1 (am_q t).2.1 (am_q t).2.2, w ∈ am_T := am_13 am_hin0 am_hin1 am_hin2 am_hin3 am_hin4 am_hin5 am_hin6 am_hin7 am_hin8 am_hin9 am_hin10 am_hin11 am_hin12
