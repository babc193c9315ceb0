/-- the good words of the tables -/
def gW : List Cond := lw_tbl.filter goodWord
theorem gWm {w : Cond} (i : Nat) (h : lw_tbl[i]? = some w) (hg : goodWord w = true) : w ∈ gW := List.mem_filter.mpr ⟨List.mem_of_getElem? h, hg⟩
theorem gW_good : ∀ w ∈ gW, goodWord w = true := fun w h => (List.mem_filter.mp h).2
def ownS : Nat → String
  | 0 => RJx4a65c
  | 1 => RX0
  | 2 => RX1
  | 3 => RX2
  | 4 => RX3
  | 5 => RX4
  | 6 => RX5
  | 7 => RX6
  | 8 => RX7
  | 9 => RJ0
  | 10 => RJ1
  | 11 => "java/lang/StringUTF16"
  | 12 => RJxa1e45
  | 13 => RJxc12de
  | 14 => RJ7
  | 15 => RJ15
  | 16 => RJ8
  | 17 => RJ3
  | 18 => "java/lang/Math"
  | _ => ""
def clT : Nat → u_T
  | 0 => TJx4a65c
  | 1 => TX0
  | 2 => TX1
  | 3 => TX2
  | 4 => TX3
  | 5 => TX4
  | 6 => TX5
  | 7 => TX6
  | 8 => TX7
  | _ => fun _ => ("", "", "", false)
def clY : Nat → Nat → FieldType
  | 0 => tyJx4a65c
  | 1 => tyX0
  | 2 => tyX1
  | 3 => tyX2
  | 4 => tyX3
  | 5 => tyX4
  | 6 => tyX5
  | 7 => tyX6
  | 8 => tyX7
  | _ => fun _ => .int
set_option maxRecDepth 20000 in
theorem gu_RJx4a65c : ∀ w ∈ u_ws RJx4a65c TJx4a65c 3, w ∈ gW := by
  have h : (u_ws RJx4a65c TJx4a65c 3).all (fun w => decide (w ∈ lw_tbl) && goodWord w) = true := by decide +kernel
  intro w hw
  have h1 := List.all_eq_true.mp h w hw
  simp only [Bool.and_eq_true, decide_eq_true_eq] at h1
  exact List.mem_filter.mpr h1
set_option maxRecDepth 20000 in
theorem gu_RX0 : ∀ w ∈ u_ws RX0 TX0 5, w ∈ gW := by
  have h : (u_ws RX0 TX0 5).all (fun w => decide (w ∈ lw_tbl) && goodWord w) = true := by decide +kernel
  intro w hw
  have h1 := List.all_eq_true.mp h w hw
  simp only [Bool.and_eq_true, decide_eq_true_eq] at h1
  exact List.mem_filter.mpr h1
set_option maxRecDepth 20000 in
theorem gu_RX1 : ∀ w ∈ u_ws RX1 TX1 6, w ∈ gW := by
  have h : (u_ws RX1 TX1 6).all (fun w => decide (w ∈ lw_tbl) && goodWord w) = true := by decide +kernel
  intro w hw
  have h1 := List.all_eq_true.mp h w hw
  simp only [Bool.and_eq_true, decide_eq_true_eq] at h1
  exact List.mem_filter.mpr h1
set_option maxRecDepth 20000 in
theorem gu_RX2 : ∀ w ∈ u_ws RX2 TX2 5, w ∈ gW := by
  have h : (u_ws RX2 TX2 5).all (fun w => decide (w ∈ lw_tbl) && goodWord w) = true := by decide +kernel
  intro w hw
  have h1 := List.all_eq_true.mp h w hw
  simp only [Bool.and_eq_true, decide_eq_true_eq] at h1
  exact List.mem_filter.mpr h1
set_option maxRecDepth 20000 in
theorem gu_RX3 : ∀ w ∈ u_ws RX3 TX3 7, w ∈ gW := by
  have h : (u_ws RX3 TX3 7).all (fun w => decide (w ∈ lw_tbl) && goodWord w) = true := by decide +kernel
  intro w hw
  have h1 := List.all_eq_true.mp h w hw
  simp only [Bool.and_eq_true, decide_eq_true_eq] at h1
  exact List.mem_filter.mpr h1
set_option maxRecDepth 20000 in
theorem gu_RX4 : ∀ w ∈ u_ws RX4 TX4 8, w ∈ gW := by
  have h : (u_ws RX4 TX4 8).all (fun w => decide (w ∈ lw_tbl) && goodWord w) = true := by decide +kernel
  intro w hw
  have h1 := List.all_eq_true.mp h w hw
  simp only [Bool.and_eq_true, decide_eq_true_eq] at h1
  exact List.mem_filter.mpr h1
set_option maxRecDepth 20000 in
theorem gu_RX5 : ∀ w ∈ u_ws RX5 TX5 2, w ∈ gW := by
  have h : (u_ws RX5 TX5 2).all (fun w => decide (w ∈ lw_tbl) && goodWord w) = true := by decide +kernel
  intro w hw
  have h1 := List.all_eq_true.mp h w hw
  simp only [Bool.and_eq_true, decide_eq_true_eq] at h1
  exact List.mem_filter.mpr h1
set_option maxRecDepth 20000 in
theorem gu_RX6 : ∀ w ∈ u_ws RX6 TX6 8, w ∈ gW := by
  have h : (u_ws RX6 TX6 8).all (fun w => decide (w ∈ lw_tbl) && goodWord w) = true := by decide +kernel
  intro w hw
  have h1 := List.all_eq_true.mp h w hw
  simp only [Bool.and_eq_true, decide_eq_true_eq] at h1
  exact List.mem_filter.mpr h1
set_option maxRecDepth 20000 in
theorem gu_RX7 : ∀ w ∈ u_ws RX7 TX7 38, w ∈ gW := by
  have h : (u_ws RX7 TX7 38).all (fun w => decide (w ∈ lw_tbl) && goodWord w) = true := by decide +kernel
  intro w hw
  have h1 := List.all_eq_true.mp h w hw
  simp only [Bool.and_eq_true, decide_eq_true_eq] at h1
  exact List.mem_filter.mpr h1
theorem gf_0_9 : Cond.fieldLink (ownS 0) 9 RJx4a65c (clT 0 1).2.1 (clT 0 1).2.2.1 ∈ gW := gWm (w := Cond.fieldLink (ownS 0) 9 RJx4a65c (clT 0 1).2.1 (clT 0 1).2.2.1) 116 (by decide +kernel) (by decide +kernel)
theorem gf_0_48 : Cond.fieldLink (ownS 0) 48 RJx4a65c (clT 0 2).2.1 (clT 0 2).2.2.1 ∈ gW := gWm (w := Cond.fieldLink (ownS 0) 48 RJx4a65c (clT 0 2).2.1 (clT 0 2).2.2.1) 117 (by decide +kernel) (by decide +kernel)
theorem gf_0_63 : Cond.fieldLink (ownS 0) 63 RJx4a65c (clT 0 0).2.1 (clT 0 0).2.2.1 ∈ gW := gWm (w := Cond.fieldLink (ownS 0) 63 RJx4a65c (clT 0 0).2.1 (clT 0 0).2.2.1) 119 (by decide +kernel) (by decide +kernel)
theorem gf_1_12 : Cond.fieldLink (ownS 1) 12 RX0 (clT 1 2).2.1 (clT 1 2).2.2.1 ∈ gW := gWm (w := Cond.fieldLink (ownS 1) 12 RX0 (clT 1 2).2.1 (clT 1 2).2.2.1) 810 (by decide +kernel) (by decide +kernel)
theorem gf_1_18 : Cond.fieldLink (ownS 1) 18 RX0 (clT 1 3).2.1 (clT 1 3).2.2.1 ∈ gW := gWm (w := Cond.fieldLink (ownS 1) 18 RX0 (clT 1 3).2.1 (clT 1 3).2.2.1) 813 (by decide +kernel) (by decide +kernel)
theorem gf_1_22 : Cond.fieldLink (ownS 1) 22 RX0 (clT 1 4).2.1 (clT 1 4).2.2.1 ∈ gW := gWm (w := Cond.fieldLink (ownS 1) 22 RX0 (clT 1 4).2.1 (clT 1 4).2.2.1) 814 (by decide +kernel) (by decide +kernel)
theorem gf_1_26 : Cond.fieldLink (ownS 1) 26 RX0 (clT 1 0).2.1 (clT 1 0).2.2.1 ∈ gW := gWm (w := Cond.fieldLink (ownS 1) 26 RX0 (clT 1 0).2.1 (clT 1 0).2.2.1) 804 (by decide +kernel) (by decide +kernel)
theorem gf_1_30 : Cond.fieldLink (ownS 1) 30 RX0 (clT 1 1).2.1 (clT 1 1).2.2.1 ∈ gW := gWm (w := Cond.fieldLink (ownS 1) 30 RX0 (clT 1 1).2.1 (clT 1 1).2.2.1) 807 (by decide +kernel) (by decide +kernel)
theorem gf_2_12 : Cond.fieldLink (ownS 2) 12 RX1 (clT 2 0).2.1 (clT 2 0).2.2.1 ∈ gW := gWm (w := Cond.fieldLink (ownS 2) 12 RX1 (clT 2 0).2.1 (clT 2 0).2.2.1) 136 (by decide +kernel) (by decide +kernel)
theorem gf_2_18 : Cond.fieldLink (ownS 2) 18 RX1 (clT 2 1).2.1 (clT 2 1).2.2.1 ∈ gW := gWm (w := Cond.fieldLink (ownS 2) 18 RX1 (clT 2 1).2.1 (clT 2 1).2.2.1) 137 (by decide +kernel) (by decide +kernel)
theorem gf_2_22 : Cond.fieldLink (ownS 2) 22 RX1 (clT 2 2).2.1 (clT 2 2).2.2.1 ∈ gW := gWm (w := Cond.fieldLink (ownS 2) 22 RX1 (clT 2 2).2.1 (clT 2 2).2.2.1) 138 (by decide +kernel) (by decide +kernel)
theorem gf_2_26 : Cond.fieldLink (ownS 2) 26 RX1 (clT 2 3).2.1 (clT 2 3).2.2.1 ∈ gW := gWm (w := Cond.fieldLink (ownS 2) 26 RX1 (clT 2 3).2.1 (clT 2 3).2.2.1) 140 (by decide +kernel) (by decide +kernel)
theorem gf_2_30 : Cond.fieldLink (ownS 2) 30 RX1 (clT 2 4).2.1 (clT 2 4).2.2.1 ∈ gW := gWm (w := Cond.fieldLink (ownS 2) 30 RX1 (clT 2 4).2.1 (clT 2 4).2.2.1) 142 (by decide +kernel) (by decide +kernel)
theorem gf_2_33 : Cond.fieldLink (ownS 2) 33 RX1 (clT 2 5).2.1 (clT 2 5).2.2.1 ∈ gW := gWm (w := Cond.fieldLink (ownS 2) 33 RX1 (clT 2 5).2.1 (clT 2 5).2.2.1) 144 (by decide +kernel) (by decide +kernel)
theorem gf_3_7 : Cond.fieldLink (ownS 3) 7 RX2 (clT 3 0).2.1 (clT 3 0).2.2.1 ∈ gW := gWm (w := Cond.fieldLink (ownS 3) 7 RX2 (clT 3 0).2.1 (clT 3 0).2.2.1) 190 (by decide +kernel) (by decide +kernel)
theorem gf_3_13 : Cond.fieldLink (ownS 3) 13 RX2 (clT 3 1).2.1 (clT 3 1).2.2.1 ∈ gW := gWm (w := Cond.fieldLink (ownS 3) 13 RX2 (clT 3 1).2.1 (clT 3 1).2.2.1) 192 (by decide +kernel) (by decide +kernel)
theorem gf_3_16 : Cond.fieldLink (ownS 3) 16 RX2 (clT 3 2).2.1 (clT 3 2).2.2.1 ∈ gW := gWm (w := Cond.fieldLink (ownS 3) 16 RX2 (clT 3 2).2.1 (clT 3 2).2.2.1) 194 (by decide +kernel) (by decide +kernel)
theorem gf_3_19 : Cond.fieldLink (ownS 3) 19 RX2 (clT 3 3).2.1 (clT 3 3).2.2.1 ∈ gW := gWm (w := Cond.fieldLink (ownS 3) 19 RX2 (clT 3 3).2.1 (clT 3 3).2.2.1) 196 (by decide +kernel) (by decide +kernel)
theorem gf_3_22 : Cond.fieldLink (ownS 3) 22 RX2 (clT 3 4).2.1 (clT 3 4).2.2.1 ∈ gW := gWm (w := Cond.fieldLink (ownS 3) 22 RX2 (clT 3 4).2.1 (clT 3 4).2.2.1) 198 (by decide +kernel) (by decide +kernel)
theorem gf_4_12 : Cond.fieldLink (ownS 4) 12 RX3 (clT 4 0).2.1 (clT 4 0).2.2.1 ∈ gW := gWm (w := Cond.fieldLink (ownS 4) 12 RX3 (clT 4 0).2.1 (clT 4 0).2.2.1) 211 (by decide +kernel) (by decide +kernel)
theorem gf_4_18 : Cond.fieldLink (ownS 4) 18 RX3 (clT 4 1).2.1 (clT 4 1).2.2.1 ∈ gW := gWm (w := Cond.fieldLink (ownS 4) 18 RX3 (clT 4 1).2.1 (clT 4 1).2.2.1) 212 (by decide +kernel) (by decide +kernel)
theorem gf_4_22 : Cond.fieldLink (ownS 4) 22 RX3 (clT 4 2).2.1 (clT 4 2).2.2.1 ∈ gW := gWm (w := Cond.fieldLink (ownS 4) 22 RX3 (clT 4 2).2.1 (clT 4 2).2.2.1) 213 (by decide +kernel) (by decide +kernel)
theorem gf_4_25 : Cond.fieldLink (ownS 4) 25 RX3 (clT 4 3).2.1 (clT 4 3).2.2.1 ∈ gW := gWm (w := Cond.fieldLink (ownS 4) 25 RX3 (clT 4 3).2.1 (clT 4 3).2.2.1) 214 (by decide +kernel) (by decide +kernel)
theorem gf_4_32 : Cond.fieldLink (ownS 4) 32 RX3 (clT 4 4).2.1 (clT 4 4).2.2.1 ∈ gW := gWm (w := Cond.fieldLink (ownS 4) 32 RX3 (clT 4 4).2.1 (clT 4 4).2.2.1) 215 (by decide +kernel) (by decide +kernel)
theorem gf_4_39 : Cond.fieldLink (ownS 4) 39 RX3 (clT 4 5).2.1 (clT 4 5).2.2.1 ∈ gW := gWm (w := Cond.fieldLink (ownS 4) 39 RX3 (clT 4 5).2.1 (clT 4 5).2.2.1) 216 (by decide +kernel) (by decide +kernel)
theorem gf_4_43 : Cond.fieldLink (ownS 4) 43 RX3 (clT 4 6).2.1 (clT 4 6).2.2.1 ∈ gW := gWm (w := Cond.fieldLink (ownS 4) 43 RX3 (clT 4 6).2.1 (clT 4 6).2.2.1) 217 (by decide +kernel) (by decide +kernel)
theorem gf_5_12 : Cond.fieldLink (ownS 5) 12 RX4 (clT 5 1).2.1 (clT 5 1).2.2.1 ∈ gW := gWm (w := Cond.fieldLink (ownS 5) 12 RX4 (clT 5 1).2.1 (clT 5 1).2.2.1) 323 (by decide +kernel) (by decide +kernel)
theorem gf_5_21 : Cond.fieldLink (ownS 5) 21 RX4 (clT 5 2).2.1 (clT 5 2).2.2.1 ∈ gW := gWm (w := Cond.fieldLink (ownS 5) 21 RX4 (clT 5 2).2.1 (clT 5 2).2.2.1) 324 (by decide +kernel) (by decide +kernel)
theorem gf_5_25 : Cond.fieldLink (ownS 5) 25 RX4 (clT 5 3).2.1 (clT 5 3).2.2.1 ∈ gW := gWm (w := Cond.fieldLink (ownS 5) 25 RX4 (clT 5 3).2.1 (clT 5 3).2.2.1) 326 (by decide +kernel) (by decide +kernel)
theorem gf_5_28 : Cond.fieldLink (ownS 5) 28 RX4 (clT 5 4).2.1 (clT 5 4).2.2.1 ∈ gW := gWm (w := Cond.fieldLink (ownS 5) 28 RX4 (clT 5 4).2.1 (clT 5 4).2.2.1) 327 (by decide +kernel) (by decide +kernel)
theorem gf_5_31 : Cond.fieldLink (ownS 5) 31 RX4 (clT 5 5).2.1 (clT 5 5).2.2.1 ∈ gW := gWm (w := Cond.fieldLink (ownS 5) 31 RX4 (clT 5 5).2.1 (clT 5 5).2.2.1) 328 (by decide +kernel) (by decide +kernel)
theorem gf_5_34 : Cond.fieldLink (ownS 5) 34 RX4 (clT 5 6).2.1 (clT 5 6).2.2.1 ∈ gW := gWm (w := Cond.fieldLink (ownS 5) 34 RX4 (clT 5 6).2.1 (clT 5 6).2.2.1) 330 (by decide +kernel) (by decide +kernel)
theorem gf_5_38 : Cond.fieldLink (ownS 5) 38 RX4 (clT 5 7).2.1 (clT 5 7).2.2.1 ∈ gW := gWm (w := Cond.fieldLink (ownS 5) 38 RX4 (clT 5 7).2.1 (clT 5 7).2.2.1) 333 (by decide +kernel) (by decide +kernel)
theorem gf_5_41 : Cond.fieldLink (ownS 5) 41 RX4 (clT 5 0).2.1 (clT 5 0).2.2.1 ∈ gW := gWm (w := Cond.fieldLink (ownS 5) 41 RX4 (clT 5 0).2.1 (clT 5 0).2.2.1) 320 (by decide +kernel) (by decide +kernel)
theorem gf_6_9 : Cond.fieldLink (ownS 6) 9 RX5 (clT 6 0).2.1 (clT 6 0).2.2.1 ∈ gW := gWm (w := Cond.fieldLink (ownS 6) 9 RX5 (clT 6 0).2.1 (clT 6 0).2.2.1) 166 (by decide +kernel) (by decide +kernel)
theorem gf_6_13 : Cond.fieldLink (ownS 6) 13 RX5 (clT 6 1).2.1 (clT 6 1).2.2.1 ∈ gW := gWm (w := Cond.fieldLink (ownS 6) 13 RX5 (clT 6 1).2.1 (clT 6 1).2.2.1) 167 (by decide +kernel) (by decide +kernel)
theorem gf_7_12 : Cond.fieldLink (ownS 7) 12 RX6 (clT 7 0).2.1 (clT 7 0).2.2.1 ∈ gW := gWm (w := Cond.fieldLink (ownS 7) 12 RX6 (clT 7 0).2.1 (clT 7 0).2.2.1) 233 (by decide +kernel) (by decide +kernel)
theorem gf_7_16 : Cond.fieldLink (ownS 7) 16 RX6 (clT 7 1).2.1 (clT 7 1).2.2.1 ∈ gW := gWm (w := Cond.fieldLink (ownS 7) 16 RX6 (clT 7 1).2.1 (clT 7 1).2.2.1) 234 (by decide +kernel) (by decide +kernel)
theorem gf_7_19 : Cond.fieldLink (ownS 7) 19 RX6 (clT 7 2).2.1 (clT 7 2).2.2.1 ∈ gW := gWm (w := Cond.fieldLink (ownS 7) 19 RX6 (clT 7 2).2.1 (clT 7 2).2.2.1) 235 (by decide +kernel) (by decide +kernel)
theorem gf_7_23 : Cond.fieldLink (ownS 7) 23 RX6 (clT 7 3).2.1 (clT 7 3).2.2.1 ∈ gW := gWm (w := Cond.fieldLink (ownS 7) 23 RX6 (clT 7 3).2.1 (clT 7 3).2.2.1) 236 (by decide +kernel) (by decide +kernel)
theorem gf_7_29 : Cond.fieldLink (ownS 7) 29 RX6 (clT 7 4).2.1 (clT 7 4).2.2.1 ∈ gW := gWm (w := Cond.fieldLink (ownS 7) 29 RX6 (clT 7 4).2.1 (clT 7 4).2.2.1) 237 (by decide +kernel) (by decide +kernel)
theorem gf_7_36 : Cond.fieldLink (ownS 7) 36 RX6 (clT 7 5).2.1 (clT 7 5).2.2.1 ∈ gW := gWm (w := Cond.fieldLink (ownS 7) 36 RX6 (clT 7 5).2.1 (clT 7 5).2.2.1) 238 (by decide +kernel) (by decide +kernel)
theorem gf_7_43 : Cond.fieldLink (ownS 7) 43 RX6 (clT 7 6).2.1 (clT 7 6).2.2.1 ∈ gW := gWm (w := Cond.fieldLink (ownS 7) 43 RX6 (clT 7 6).2.1 (clT 7 6).2.2.1) 239 (by decide +kernel) (by decide +kernel)
theorem gf_7_47 : Cond.fieldLink (ownS 7) 47 RX6 (clT 7 7).2.1 (clT 7 7).2.2.1 ∈ gW := gWm (w := Cond.fieldLink (ownS 7) 47 RX6 (clT 7 7).2.1 (clT 7 7).2.2.1) 240 (by decide +kernel) (by decide +kernel)
theorem gf_8_7 : Cond.fieldLink (ownS 8) 7 RX7 (clT 8 2).2.1 (clT 8 2).2.2.1 ∈ gW := gWm (w := Cond.fieldLink (ownS 8) 7 RX7 (clT 8 2).2.1 (clT 8 2).2.2.1) 1021 (by decide +kernel) (by decide +kernel)
theorem gf_8_13 : Cond.fieldLink (ownS 8) 13 RX7 (clT 8 3).2.1 (clT 8 3).2.2.1 ∈ gW := gWm (w := Cond.fieldLink (ownS 8) 13 RX7 (clT 8 3).2.1 (clT 8 3).2.2.1) 1022 (by decide +kernel) (by decide +kernel)
theorem gf_8_16 : Cond.fieldLink (ownS 8) 16 RX7 (clT 8 4).2.1 (clT 8 4).2.2.1 ∈ gW := gWm (w := Cond.fieldLink (ownS 8) 16 RX7 (clT 8 4).2.1 (clT 8 4).2.2.1) 1023 (by decide +kernel) (by decide +kernel)
theorem gf_8_19 : Cond.fieldLink (ownS 8) 19 RX7 (clT 8 5).2.1 (clT 8 5).2.2.1 ∈ gW := gWm (w := Cond.fieldLink (ownS 8) 19 RX7 (clT 8 5).2.1 (clT 8 5).2.2.1) 1024 (by decide +kernel) (by decide +kernel)
theorem gf_8_22 : Cond.fieldLink (ownS 8) 22 RX7 (clT 8 6).2.1 (clT 8 6).2.2.1 ∈ gW := gWm (w := Cond.fieldLink (ownS 8) 22 RX7 (clT 8 6).2.1 (clT 8 6).2.2.1) 1025 (by decide +kernel) (by decide +kernel)
theorem gf_8_25 : Cond.fieldLink (ownS 8) 25 RX7 (clT 8 7).2.1 (clT 8 7).2.2.1 ∈ gW := gWm (w := Cond.fieldLink (ownS 8) 25 RX7 (clT 8 7).2.1 (clT 8 7).2.2.1) 1026 (by decide +kernel) (by decide +kernel)
theorem gf_8_28 : Cond.fieldLink (ownS 8) 28 RX7 (clT 8 10).2.1 (clT 8 10).2.2.1 ∈ gW := gWm (w := Cond.fieldLink (ownS 8) 28 RX7 (clT 8 10).2.1 (clT 8 10).2.2.1) 1029 (by decide +kernel) (by decide +kernel)
theorem gf_8_31 : Cond.fieldLink (ownS 8) 31 RX7 (clT 8 13).2.1 (clT 8 13).2.2.1 ∈ gW := gWm (w := Cond.fieldLink (ownS 8) 31 RX7 (clT 8 13).2.1 (clT 8 13).2.2.1) 1032 (by decide +kernel) (by decide +kernel)
theorem gf_8_34 : Cond.fieldLink (ownS 8) 34 RX7 (clT 8 14).2.1 (clT 8 14).2.2.1 ∈ gW := gWm (w := Cond.fieldLink (ownS 8) 34 RX7 (clT 8 14).2.1 (clT 8 14).2.2.1) 1033 (by decide +kernel) (by decide +kernel)
theorem gf_8_37 : Cond.fieldLink (ownS 8) 37 RX7 (clT 8 15).2.1 (clT 8 15).2.2.1 ∈ gW := gWm (w := Cond.fieldLink (ownS 8) 37 RX7 (clT 8 15).2.1 (clT 8 15).2.2.1) 1034 (by decide +kernel) (by decide +kernel)
theorem gf_8_40 : Cond.fieldLink (ownS 8) 40 RX7 (clT 8 16).2.1 (clT 8 16).2.2.1 ∈ gW := gWm (w := Cond.fieldLink (ownS 8) 40 RX7 (clT 8 16).2.1 (clT 8 16).2.2.1) 1035 (by decide +kernel) (by decide +kernel)
theorem gf_8_43 : Cond.fieldLink (ownS 8) 43 RX7 (clT 8 17).2.1 (clT 8 17).2.2.1 ∈ gW := gWm (w := Cond.fieldLink (ownS 8) 43 RX7 (clT 8 17).2.1 (clT 8 17).2.2.1) 1036 (by decide +kernel) (by decide +kernel)
theorem gf_8_46 : Cond.fieldLink (ownS 8) 46 RX7 (clT 8 18).2.1 (clT 8 18).2.2.1 ∈ gW := gWm (w := Cond.fieldLink (ownS 8) 46 RX7 (clT 8 18).2.1 (clT 8 18).2.2.1) 1037 (by decide +kernel) (by decide +kernel)
theorem gf_8_49 : Cond.fieldLink (ownS 8) 49 RX7 (clT 8 19).2.1 (clT 8 19).2.2.1 ∈ gW := gWm (w := Cond.fieldLink (ownS 8) 49 RX7 (clT 8 19).2.1 (clT 8 19).2.2.1) 1038 (by decide +kernel) (by decide +kernel)
theorem gf_8_52 : Cond.fieldLink (ownS 8) 52 RX7 (clT 8 20).2.1 (clT 8 20).2.2.1 ∈ gW := gWm (w := Cond.fieldLink (ownS 8) 52 RX7 (clT 8 20).2.1 (clT 8 20).2.2.1) 1039 (by decide +kernel) (by decide +kernel)
theorem gf_8_55 : Cond.fieldLink (ownS 8) 55 RX7 (clT 8 22).2.1 (clT 8 22).2.2.1 ∈ gW := gWm (w := Cond.fieldLink (ownS 8) 55 RX7 (clT 8 22).2.1 (clT 8 22).2.2.1) 1041 (by decide +kernel) (by decide +kernel)
theorem gf_8_58 : Cond.fieldLink (ownS 8) 58 RX7 (clT 8 26).2.1 (clT 8 26).2.2.1 ∈ gW := gWm (w := Cond.fieldLink (ownS 8) 58 RX7 (clT 8 26).2.1 (clT 8 26).2.2.1) 1045 (by decide +kernel) (by decide +kernel)
theorem gf_8_61 : Cond.fieldLink (ownS 8) 61 RX7 (clT 8 27).2.1 (clT 8 27).2.2.1 ∈ gW := gWm (w := Cond.fieldLink (ownS 8) 61 RX7 (clT 8 27).2.1 (clT 8 27).2.2.1) 1046 (by decide +kernel) (by decide +kernel)
theorem gf_8_64 : Cond.fieldLink (ownS 8) 64 RX7 (clT 8 28).2.1 (clT 8 28).2.2.1 ∈ gW := gWm (w := Cond.fieldLink (ownS 8) 64 RX7 (clT 8 28).2.1 (clT 8 28).2.2.1) 1047 (by decide +kernel) (by decide +kernel)
theorem gf_8_67 : Cond.fieldLink (ownS 8) 67 RX7 (clT 8 29).2.1 (clT 8 29).2.2.1 ∈ gW := gWm (w := Cond.fieldLink (ownS 8) 67 RX7 (clT 8 29).2.1 (clT 8 29).2.2.1) 1048 (by decide +kernel) (by decide +kernel)
theorem gf_8_70 : Cond.fieldLink (ownS 8) 70 RX7 (clT 8 30).2.1 (clT 8 30).2.2.1 ∈ gW := gWm (w := Cond.fieldLink (ownS 8) 70 RX7 (clT 8 30).2.1 (clT 8 30).2.2.1) 1049 (by decide +kernel) (by decide +kernel)
theorem gf_8_73 : Cond.fieldLink (ownS 8) 73 RX7 (clT 8 31).2.1 (clT 8 31).2.2.1 ∈ gW := gWm (w := Cond.fieldLink (ownS 8) 73 RX7 (clT 8 31).2.1 (clT 8 31).2.2.1) 1050 (by decide +kernel) (by decide +kernel)
theorem gf_8_76 : Cond.fieldLink (ownS 8) 76 RX7 (clT 8 33).2.1 (clT 8 33).2.2.1 ∈ gW := gWm (w := Cond.fieldLink (ownS 8) 76 RX7 (clT 8 33).2.1 (clT 8 33).2.2.1) 1052 (by decide +kernel) (by decide +kernel)
theorem gf_8_79 : Cond.fieldLink (ownS 8) 79 RX7 (clT 8 34).2.1 (clT 8 34).2.2.1 ∈ gW := gWm (w := Cond.fieldLink (ownS 8) 79 RX7 (clT 8 34).2.1 (clT 8 34).2.2.1) 1053 (by decide +kernel) (by decide +kernel)
theorem gf_8_82 : Cond.fieldLink (ownS 8) 82 RX7 (clT 8 36).2.1 (clT 8 36).2.2.1 ∈ gW := gWm (w := Cond.fieldLink (ownS 8) 82 RX7 (clT 8 36).2.1 (clT 8 36).2.2.1) 1055 (by decide +kernel) (by decide +kernel)
theorem gf_8_85 : Cond.fieldLink (ownS 8) 85 RX7 (clT 8 0).2.1 (clT 8 0).2.2.1 ∈ gW := gWm (w := Cond.fieldLink (ownS 8) 85 RX7 (clT 8 0).2.1 (clT 8 0).2.2.1) 1019 (by decide +kernel) (by decide +kernel)
theorem gf_8_89 : Cond.fieldLink (ownS 8) 89 RX7 (clT 8 1).2.1 (clT 8 1).2.2.1 ∈ gW := gWm (w := Cond.fieldLink (ownS 8) 89 RX7 (clT 8 1).2.1 (clT 8 1).2.2.1) 1020 (by decide +kernel) (by decide +kernel)
theorem gf_8_107 : Cond.fieldLink (ownS 8) 107 RX7 (clT 8 8).2.1 (clT 8 8).2.2.1 ∈ gW := gWm (w := Cond.fieldLink (ownS 8) 107 RX7 (clT 8 8).2.1 (clT 8 8).2.2.1) 1027 (by decide +kernel) (by decide +kernel)
theorem gf_8_110 : Cond.fieldLink (ownS 8) 110 RX7 (clT 8 9).2.1 (clT 8 9).2.2.1 ∈ gW := gWm (w := Cond.fieldLink (ownS 8) 110 RX7 (clT 8 9).2.1 (clT 8 9).2.2.1) 1028 (by decide +kernel) (by decide +kernel)
theorem gf_8_113 : Cond.fieldLink (ownS 8) 113 RX7 (clT 8 11).2.1 (clT 8 11).2.2.1 ∈ gW := gWm (w := Cond.fieldLink (ownS 8) 113 RX7 (clT 8 11).2.1 (clT 8 11).2.2.1) 1030 (by decide +kernel) (by decide +kernel)
theorem gf_8_116 : Cond.fieldLink (ownS 8) 116 RX7 (clT 8 12).2.1 (clT 8 12).2.2.1 ∈ gW := gWm (w := Cond.fieldLink (ownS 8) 116 RX7 (clT 8 12).2.1 (clT 8 12).2.2.1) 1031 (by decide +kernel) (by decide +kernel)
theorem gf_8_136 : Cond.fieldLink (ownS 8) 136 RX7 (clT 8 21).2.1 (clT 8 21).2.2.1 ∈ gW := gWm (w := Cond.fieldLink (ownS 8) 136 RX7 (clT 8 21).2.1 (clT 8 21).2.2.1) 1040 (by decide +kernel) (by decide +kernel)
theorem gf_8_153 : Cond.fieldLink (ownS 8) 153 RX7 (clT 8 23).2.1 (clT 8 23).2.2.1 ∈ gW := gWm (w := Cond.fieldLink (ownS 8) 153 RX7 (clT 8 23).2.1 (clT 8 23).2.2.1) 1042 (by decide +kernel) (by decide +kernel)
theorem gf_8_183 : Cond.fieldLink (ownS 8) 183 RX7 (clT 8 25).2.1 (clT 8 25).2.2.1 ∈ gW := gWm (w := Cond.fieldLink (ownS 8) 183 RX7 (clT 8 25).2.1 (clT 8 25).2.2.1) 1044 (by decide +kernel) (by decide +kernel)
theorem gf_8_223 : Cond.fieldLink (ownS 8) 223 RX7 (clT 8 37).2.1 (clT 8 37).2.2.1 ∈ gW := gWm (w := Cond.fieldLink (ownS 8) 223 RX7 (clT 8 37).2.1 (clT 8 37).2.2.1) 1056 (by decide +kernel) (by decide +kernel)
theorem gf_8_250 : Cond.fieldLink (ownS 8) 250 RX7 (clT 8 32).2.1 (clT 8 32).2.2.1 ∈ gW := gWm (w := Cond.fieldLink (ownS 8) 250 RX7 (clT 8 32).2.1 (clT 8 32).2.2.1) 1051 (by decide +kernel) (by decide +kernel)
theorem gf_8_271 : Cond.fieldLink (ownS 8) 271 RX7 (clT 8 24).2.1 (clT 8 24).2.2.1 ∈ gW := gWm (w := Cond.fieldLink (ownS 8) 271 RX7 (clT 8 24).2.1 (clT 8 24).2.2.1) 1043 (by decide +kernel) (by decide +kernel)
theorem gf_8_282 : Cond.fieldLink (ownS 8) 282 RX7 (clT 8 35).2.1 (clT 8 35).2.2.1 ∈ gW := gWm (w := Cond.fieldLink (ownS 8) 282 RX7 (clT 8 35).2.1 (clT 8 35).2.2.1) 1054 (by decide +kernel) (by decide +kernel)
theorem gf_13_7 : Cond.fieldLink (ownS 13) 7 RJxc12de (clT 0 0).2.1 (clT 0 0).2.2.1 ∈ gW := gWm (w := Cond.fieldLink (ownS 13) 7 RJxc12de (clT 0 0).2.1 (clT 0 0).2.2.1) 118 (by decide +kernel) (by decide +kernel)
/-- fields of nest mates -/
def nF : List (String × Nat × String × String × String) := [(RX1, 42, RX4, "entry", "LCiteLists$Entry;"), (RX1, 64, RX4, "order", "LCiteLists$Text;"), (RX1, 89, RX4, "suffix", "I"), (RX1, 92, RX4, "base", "LCiteLists$Text;"), (RX1, 109, RX0, "kind", "I"), (RX1, 118, RX0, "number", "I"), (RX3, 90, RX2, "particleFrom", "I"), (RX3, 93, RX2, "familyFrom", "I"), (RX3, 96, RX2, "familyTo", "I"), (RX3, 99, RX2, "givenFrom", "I"), (RX3, 102, RX2, "givenTo", "I"), (RX4, 96, RX0, "key", "LCiteLists$Text;"), (RX4, 154, RX0, "kind", "I"), (RX6, 74, RX0, "key", "LCiteLists$Text;"), (RX6, 96, RX0, "crossed", "LCiteLists$Entry;"), (RX6, 145, RX4, "entry", "LCiteLists$Entry;"), (RX6, 148, RX0, "number", "I"), (RX6, 151, RX4, "suffix", "I"), (RX6, 176, RX1, "missingCount", "I"), (RX6, 181, RX1, "missingEntries", "[I"), (RX6, 185, RX1, "missingFields", "[I"), (RX6, 191, RX4, "text", "LCiteLists$Text;"), (RX6, 214, RX1, "begun", "Z")]
theorem fR_ok : ∀ o i c j, fR o i = some (c, j) → c ≤ 8 → j < fN c ∧ ∃ ref : String, (ref = (clT c j).1 ∨ (c = 0 ∧ j = 0 ∧ ref = RJx4a65c)) ∧ (Cond.fieldLink (ownS o) i ref (clT c j).2.1 (clT c j).2.2.1 ∈ gW ∨ (ownS o, i, ref, (clT c j).2.1, (clT c j).2.2.1) ∈ nF) := by
  intro o i c j h hc
  unfold fR at h
  split at h
  · cases h; exact ⟨by decide, RJx4a65c, Or.inl rfl, Or.inl gf_0_9⟩
  · cases h; exact ⟨by decide, RJx4a65c, Or.inl rfl, Or.inl gf_0_48⟩
  · cases h; exact ⟨by decide, RJx4a65c, Or.inr ⟨rfl, rfl, rfl⟩, Or.inl gf_0_63⟩
  · cases h; exact ⟨by decide, RX0, Or.inl rfl, Or.inl gf_1_12⟩
  · cases h; exact ⟨by decide, RX0, Or.inl rfl, Or.inl gf_1_18⟩
  · cases h; exact ⟨by decide, RX0, Or.inl rfl, Or.inl gf_1_22⟩
  · cases h; exact ⟨by decide, RX0, Or.inl rfl, Or.inl gf_1_26⟩
  · cases h; exact ⟨by decide, RX0, Or.inl rfl, Or.inl gf_1_30⟩
  · cases h; exact ⟨by decide, RX1, Or.inl rfl, Or.inl gf_2_12⟩
  · cases h; exact ⟨by decide, RX1, Or.inl rfl, Or.inl gf_2_18⟩
  · cases h; exact ⟨by decide, RX1, Or.inl rfl, Or.inl gf_2_22⟩
  · cases h; exact ⟨by decide, RX1, Or.inl rfl, Or.inl gf_2_26⟩
  · cases h; exact ⟨by decide, RX1, Or.inl rfl, Or.inl gf_2_30⟩
  · cases h; exact ⟨by decide, RX1, Or.inl rfl, Or.inl gf_2_33⟩
  · cases h; exact ⟨by decide, RX4, Or.inl rfl, Or.inr (by decide +kernel)⟩
  · cases h; exact ⟨by decide, RX4, Or.inl rfl, Or.inr (by decide +kernel)⟩
  · cases h; exact ⟨by decide, RX4, Or.inl rfl, Or.inr (by decide +kernel)⟩
  · cases h; exact ⟨by decide, RX4, Or.inl rfl, Or.inr (by decide +kernel)⟩
  · cases h; exact ⟨by decide, RX0, Or.inl rfl, Or.inr (by decide +kernel)⟩
  · cases h; exact ⟨by decide, RX0, Or.inl rfl, Or.inr (by decide +kernel)⟩
  · cases h; exact ⟨by decide, RX2, Or.inl rfl, Or.inl gf_3_7⟩
  · cases h; exact ⟨by decide, RX2, Or.inl rfl, Or.inl gf_3_13⟩
  · cases h; exact ⟨by decide, RX2, Or.inl rfl, Or.inl gf_3_16⟩
  · cases h; exact ⟨by decide, RX2, Or.inl rfl, Or.inl gf_3_19⟩
  · cases h; exact ⟨by decide, RX2, Or.inl rfl, Or.inl gf_3_22⟩
  · cases h; exact ⟨by decide, RX3, Or.inl rfl, Or.inl gf_4_12⟩
  · cases h; exact ⟨by decide, RX3, Or.inl rfl, Or.inl gf_4_18⟩
  · cases h; exact ⟨by decide, RX3, Or.inl rfl, Or.inl gf_4_22⟩
  · cases h; exact ⟨by decide, RX3, Or.inl rfl, Or.inl gf_4_25⟩
  · cases h; exact ⟨by decide, RX3, Or.inl rfl, Or.inl gf_4_32⟩
  · cases h; exact ⟨by decide, RX3, Or.inl rfl, Or.inl gf_4_39⟩
  · cases h; exact ⟨by decide, RX3, Or.inl rfl, Or.inl gf_4_43⟩
  · cases h; exact ⟨by decide, RX2, Or.inl rfl, Or.inr (by decide +kernel)⟩
  · cases h; exact ⟨by decide, RX2, Or.inl rfl, Or.inr (by decide +kernel)⟩
  · cases h; exact ⟨by decide, RX2, Or.inl rfl, Or.inr (by decide +kernel)⟩
  · cases h; exact ⟨by decide, RX2, Or.inl rfl, Or.inr (by decide +kernel)⟩
  · cases h; exact ⟨by decide, RX2, Or.inl rfl, Or.inr (by decide +kernel)⟩
  · cases h; exact ⟨by decide, RX4, Or.inl rfl, Or.inl gf_5_12⟩
  · cases h; exact ⟨by decide, RX4, Or.inl rfl, Or.inl gf_5_21⟩
  · cases h; exact ⟨by decide, RX4, Or.inl rfl, Or.inl gf_5_25⟩
  · cases h; exact ⟨by decide, RX4, Or.inl rfl, Or.inl gf_5_28⟩
  · cases h; exact ⟨by decide, RX4, Or.inl rfl, Or.inl gf_5_31⟩
  · cases h; exact ⟨by decide, RX4, Or.inl rfl, Or.inl gf_5_34⟩
  · cases h; exact ⟨by decide, RX4, Or.inl rfl, Or.inl gf_5_38⟩
  · cases h; exact ⟨by decide, RX4, Or.inl rfl, Or.inl gf_5_41⟩
  · cases h; exact ⟨by decide, RX0, Or.inl rfl, Or.inr (by decide +kernel)⟩
  · cases h; exact ⟨by decide, RX0, Or.inl rfl, Or.inr (by decide +kernel)⟩
  · cases h; exact ⟨by decide, RX5, Or.inl rfl, Or.inl gf_6_9⟩
  · cases h; exact ⟨by decide, RX5, Or.inl rfl, Or.inl gf_6_13⟩
  · cases h; exact ⟨by decide, RX6, Or.inl rfl, Or.inl gf_7_12⟩
  · cases h; exact ⟨by decide, RX6, Or.inl rfl, Or.inl gf_7_16⟩
  · cases h; exact ⟨by decide, RX6, Or.inl rfl, Or.inl gf_7_19⟩
  · cases h; exact ⟨by decide, RX6, Or.inl rfl, Or.inl gf_7_23⟩
  · cases h; exact ⟨by decide, RX6, Or.inl rfl, Or.inl gf_7_29⟩
  · cases h; exact ⟨by decide, RX6, Or.inl rfl, Or.inl gf_7_36⟩
  · cases h; exact ⟨by decide, RX6, Or.inl rfl, Or.inl gf_7_43⟩
  · cases h; exact ⟨by decide, RX6, Or.inl rfl, Or.inl gf_7_47⟩
  · cases h; exact ⟨by decide, RX0, Or.inl rfl, Or.inr (by decide +kernel)⟩
  · cases h; exact ⟨by decide, RX0, Or.inl rfl, Or.inr (by decide +kernel)⟩
  · cases h; exact ⟨by decide, RX4, Or.inl rfl, Or.inr (by decide +kernel)⟩
  · cases h; exact ⟨by decide, RX0, Or.inl rfl, Or.inr (by decide +kernel)⟩
  · cases h; exact ⟨by decide, RX4, Or.inl rfl, Or.inr (by decide +kernel)⟩
  · cases h; exact ⟨by decide, RX1, Or.inl rfl, Or.inr (by decide +kernel)⟩
  · cases h; exact ⟨by decide, RX1, Or.inl rfl, Or.inr (by decide +kernel)⟩
  · cases h; exact ⟨by decide, RX1, Or.inl rfl, Or.inr (by decide +kernel)⟩
  · cases h; exact ⟨by decide, RX4, Or.inl rfl, Or.inr (by decide +kernel)⟩
  · cases h; exact ⟨by decide, RX1, Or.inl rfl, Or.inr (by decide +kernel)⟩
  · cases h; exact ⟨by decide, RX7, Or.inl rfl, Or.inl gf_8_7⟩
  · cases h; exact ⟨by decide, RX7, Or.inl rfl, Or.inl gf_8_13⟩
  · cases h; exact ⟨by decide, RX7, Or.inl rfl, Or.inl gf_8_16⟩
  · cases h; exact ⟨by decide, RX7, Or.inl rfl, Or.inl gf_8_19⟩
  · cases h; exact ⟨by decide, RX7, Or.inl rfl, Or.inl gf_8_22⟩
  · cases h; exact ⟨by decide, RX7, Or.inl rfl, Or.inl gf_8_25⟩
  · cases h; exact ⟨by decide, RX7, Or.inl rfl, Or.inl gf_8_28⟩
  · cases h; exact ⟨by decide, RX7, Or.inl rfl, Or.inl gf_8_31⟩
  · cases h; exact ⟨by decide, RX7, Or.inl rfl, Or.inl gf_8_34⟩
  · cases h; exact ⟨by decide, RX7, Or.inl rfl, Or.inl gf_8_37⟩
  · cases h; exact ⟨by decide, RX7, Or.inl rfl, Or.inl gf_8_40⟩
  · cases h; exact ⟨by decide, RX7, Or.inl rfl, Or.inl gf_8_43⟩
  · cases h; exact ⟨by decide, RX7, Or.inl rfl, Or.inl gf_8_46⟩
  · cases h; exact ⟨by decide, RX7, Or.inl rfl, Or.inl gf_8_49⟩
  · cases h; exact ⟨by decide, RX7, Or.inl rfl, Or.inl gf_8_52⟩
  · cases h; exact ⟨by decide, RX7, Or.inl rfl, Or.inl gf_8_55⟩
  · cases h; exact ⟨by decide, RX7, Or.inl rfl, Or.inl gf_8_58⟩
  · cases h; exact ⟨by decide, RX7, Or.inl rfl, Or.inl gf_8_61⟩
  · cases h; exact ⟨by decide, RX7, Or.inl rfl, Or.inl gf_8_64⟩
  · cases h; exact ⟨by decide, RX7, Or.inl rfl, Or.inl gf_8_67⟩
  · cases h; exact ⟨by decide, RX7, Or.inl rfl, Or.inl gf_8_70⟩
  · cases h; exact ⟨by decide, RX7, Or.inl rfl, Or.inl gf_8_73⟩
  · cases h; exact ⟨by decide, RX7, Or.inl rfl, Or.inl gf_8_76⟩
  · cases h; exact ⟨by decide, RX7, Or.inl rfl, Or.inl gf_8_79⟩
  · cases h; exact ⟨by decide, RX7, Or.inl rfl, Or.inl gf_8_82⟩
  · cases h; exact ⟨by decide, RX7, Or.inl rfl, Or.inl gf_8_85⟩
  · cases h; exact ⟨by decide, RX7, Or.inl rfl, Or.inl gf_8_89⟩
  · cases h; exact ⟨by decide, RX7, Or.inl rfl, Or.inl gf_8_107⟩
  · cases h; exact ⟨by decide, RX7, Or.inl rfl, Or.inl gf_8_110⟩
  · cases h; exact ⟨by decide, RX7, Or.inl rfl, Or.inl gf_8_113⟩
  · cases h; exact ⟨by decide, RX7, Or.inl rfl, Or.inl gf_8_116⟩
  · cases h; exact ⟨by decide, RX7, Or.inl rfl, Or.inl gf_8_136⟩
  · cases h; exact ⟨by decide, RX7, Or.inl rfl, Or.inl gf_8_153⟩
  · cases h; exact ⟨by decide, RX7, Or.inl rfl, Or.inl gf_8_183⟩
  · cases h; exact ⟨by decide, RX7, Or.inl rfl, Or.inl gf_8_223⟩
  · cases h; exact ⟨by decide, RX7, Or.inl rfl, Or.inl gf_8_250⟩
  · cases h; exact ⟨by decide, RX7, Or.inl rfl, Or.inl gf_8_271⟩
  · cases h; exact ⟨by decide, RX7, Or.inl rfl, Or.inl gf_8_282⟩
  · cases h; exact absurd hc (by decide)
  · cases h; exact absurd hc (by decide)
  · cases h; exact ⟨by decide, RJxc12de, Or.inl rfl, Or.inl gf_13_7⟩
  · cases h
theorem gk_0_7 : Cond.classLink (ownS 0) 7 "java/lang/Object" ∈ gW := gWm (w := Cond.classLink (ownS 0) 7 "java/lang/Object") 409 (by decide +kernel) (by decide +kernel)
theorem gk_1_9 : Cond.classLink (ownS 1) 9 RX5 ∈ gW := gWm (w := Cond.classLink (ownS 1) 9 RX5) 801 (by decide +kernel) (by decide +kernel)
theorem gk_2_9 : Cond.classLink (ownS 2) 9 RJx4a65c ∈ gW := gWm (w := Cond.classLink (ownS 2) 9 RJx4a65c) 134 (by decide +kernel) (by decide +kernel)
theorem gk_2_40 : Cond.classLink (ownS 2) 40 RX4 ∈ gW := gWm (w := Cond.classLink (ownS 2) 40 RX4) 309 (by decide +kernel) (by decide +kernel)
theorem gk_4_9 : Cond.classLink (ownS 4) 9 RX5 ∈ gW := gWm (w := Cond.classLink (ownS 4) 9 RX5) 180 (by decide +kernel) (by decide +kernel)
theorem gk_4_29 : Cond.classLink (ownS 4) 29 RJx4a65c ∈ gW := gWm (w := Cond.classLink (ownS 4) 29 RJx4a65c) 182 (by decide +kernel) (by decide +kernel)
theorem gk_4_36 : Cond.classLink (ownS 4) 36 RX2 ∈ gW := gWm (w := Cond.classLink (ownS 4) 36 RX2) 184 (by decide +kernel) (by decide +kernel)
theorem gk_5_9 : Cond.classLink (ownS 5) 9 RX3 ∈ gW := gWm (w := Cond.classLink (ownS 5) 9 RX3) 316 (by decide +kernel) (by decide +kernel)
theorem gk_5_18 : Cond.classLink (ownS 5) 18 RX5 ∈ gW := gWm (w := Cond.classLink (ownS 5) 18 RX5) 318 (by decide +kernel) (by decide +kernel)
theorem gk_7_9 : Cond.classLink (ownS 7) 9 RJx4a65c ∈ gW := gWm (w := Cond.classLink (ownS 7) 9 RJx4a65c) 102 (by decide +kernel) (by decide +kernel)
theorem gk_7_26 : Cond.classLink (ownS 7) 26 RX1 ∈ gW := gWm (w := Cond.classLink (ownS 7) 26 RX1) 128 (by decide +kernel) (by decide +kernel)
theorem gk_7_33 : Cond.classLink (ownS 7) 33 RX5 ∈ gW := gWm (w := Cond.classLink (ownS 7) 33 RX5) 160 (by decide +kernel) (by decide +kernel)
theorem gk_7_40 : Cond.classLink (ownS 7) 40 RX3 ∈ gW := gWm (w := Cond.classLink (ownS 7) 40 RX3) 174 (by decide +kernel) (by decide +kernel)
theorem gk_7_61 : Cond.classLink (ownS 7) 61 RX0 ∈ gW := gWm (w := Cond.classLink (ownS 7) 61 RX0) 284 (by decide +kernel) (by decide +kernel)
theorem gk_14_2 : Cond.classLink (ownS 14) 2 "java/lang/Object" ∈ gW := gWm (w := Cond.classLink (ownS 14) 2 "java/lang/Object") 403 (by decide +kernel) (by decide +kernel)
theorem gk_14_110 : Cond.classLink (ownS 14) 110 "[Ljava/lang/Object;" ∈ gW := gWm (w := Cond.classLink (ownS 14) 110 "[Ljava/lang/Object;") 401 (by decide +kernel) (by decide +kernel)
def clN : Nat → String
  | 0 => RJx4a65c
  | 1 => RX0
  | 2 => RX1
  | 3 => RX2
  | 4 => RX3
  | 5 => RX4
  | 6 => RX5
  | 7 => RX6
  | 8 => RX7
  | 104 => "java/lang/Object"
  | 204 => "[Ljava/lang/Object;"
  | _ => ""
theorem kR_ok : ∀ o i c, kR o i = some c → Cond.classLink (ownS o) i (clN c) ∈ gW := by
  intro o i c h
  unfold kR at h
  split at h
  · cases h; exact gk_0_7
  · cases h; exact gk_1_9
  · cases h; exact gk_2_9
  · cases h; exact gk_2_40
  · cases h; exact gk_4_9
  · cases h; exact gk_4_29
  · cases h; exact gk_4_36
  · cases h; exact gk_5_9
  · cases h; exact gk_5_18
  · cases h; exact gk_7_9
  · cases h; exact gk_7_26
  · cases h; exact gk_7_33
  · cases h; exact gk_7_40
  · cases h; exact gk_7_61
  · cases h; exact gk_14_2
  · cases h; exact gk_14_110
  · cases h
theorem cl_ok : ∀ c, c ≤ 8 → vwCl[c]? = some (clN c, clT c, fN c) ∧ (∀ w ∈ u_ws (clN c) (clT c) (fN c), w ∈ gW) ∧ Cond.instantiable (clN c) (fN c) ∈ gW ∧ Cond.initialized (clN c) ∈ gW ∧ (∀ k, k < fN c → parseFieldDescriptor (clT c k).2.2.1 = some (clY c k)) ∧ (∀ a, a < fN c → ∀ b, b < fN c → a ≠ b → (clT c a).2.1 ≠ (clT c b).2.1) ∧ (∀ k, k < fN c → ((fB c k = true ∧ (clY c k).isReference = true) ∨ (fB c k = false ∧ fZ c k = false ∧ clY c k = .int) ∨ (fB c k = false ∧ fZ c k = true ∧ clY c k = .boolean)) ∧ (clT c k).2.2.2 = fF c k) ∧ (∀ k, k < fN c → fF c k = true → (clT c k).1 = clN c) := by
  intro c hc
  match c, hc with
  | 0, _ => exact ⟨rfl, gu_RJx4a65c, gWm (w := Cond.instantiable (clN 0) (fN 0)) 103 (by decide +kernel) (by decide +kernel), gWm (w := Cond.initialized (clN 0)) 70 (by decide +kernel) (by decide +kernel), tyJx4a65c_ok, nmJx4a65c, by decide +kernel, by decide +kernel⟩
  | 1, _ => exact ⟨rfl, gu_RX0, gWm (w := Cond.instantiable (clN 1) (fN 1)) 796 (by decide +kernel) (by decide +kernel), gWm (w := Cond.initialized (clN 1)) 80 (by decide +kernel) (by decide +kernel), tyX0_ok, nmX0, by decide +kernel, by decide +kernel⟩
  | 2, _ => exact ⟨rfl, gu_RX1, gWm (w := Cond.instantiable (clN 2) (fN 2)) 129 (by decide +kernel) (by decide +kernel), gWm (w := Cond.initialized (clN 2)) 71 (by decide +kernel) (by decide +kernel), tyX1_ok, nmX1, by decide +kernel, by decide +kernel⟩
  | 3, _ => exact ⟨rfl, gu_RX2, gWm (w := Cond.instantiable (clN 3) (fN 3)) 185 (by decide +kernel) (by decide +kernel), gWm (w := Cond.initialized (clN 3)) 74 (by decide +kernel) (by decide +kernel), tyX2_ok, nmX2, by decide +kernel, by decide +kernel⟩
  | 4, _ => exact ⟨rfl, gu_RX3, gWm (w := Cond.instantiable (clN 4) (fN 4)) 175 (by decide +kernel) (by decide +kernel), gWm (w := Cond.initialized (clN 4)) 73 (by decide +kernel) (by decide +kernel), tyX3_ok, nmX3, by decide +kernel, by decide +kernel⟩
  | 5, _ => exact ⟨rfl, gu_RX4, gWm (w := Cond.instantiable (clN 5) (fN 5)) 311 (by decide +kernel) (by decide +kernel), gWm (w := Cond.initialized (clN 5)) 90 (by decide +kernel) (by decide +kernel), tyX4_ok, nmX4, by decide +kernel, by decide +kernel⟩
  | 6, _ => exact ⟨rfl, gu_RX5, gWm (w := Cond.instantiable (clN 6) (fN 6)) 161 (by decide +kernel) (by decide +kernel), gWm (w := Cond.initialized (clN 6)) 72 (by decide +kernel) (by decide +kernel), tyX5_ok, nmX5, by decide +kernel, by decide +kernel⟩
  | 7, _ => exact ⟨rfl, gu_RX6, gWm (w := Cond.instantiable (clN 7) (fN 7)) 95 (by decide +kernel) (by decide +kernel), gWm (w := Cond.initialized (clN 7)) 67 (by decide +kernel) (by decide +kernel), tyX6_ok, nmX6, by decide +kernel, by decide +kernel⟩
  | 8, _ => exact ⟨rfl, gu_RX7, gWm (w := Cond.instantiable (clN 8) (fN 8)) 1014 (by decide +kernel) (by decide +kernel), gWm (w := Cond.initialized (clN 8)) 75 (by decide +kernel) (by decide +kernel), tyX7_ok, nmX7, by decide +kernel, by decide +kernel⟩
  | n + 9, h => exact absurd h (by omega)
