def fa_T0 : Nat → FieldType := fun k => match k with
  | 0 => .object "FlowApply$Row"
  | 1 => .object "FlowApply$Row"
  | 2 => .object "FlowApply$Row"
  | 3 => .object "FlowApply$Reader"
  | 4 => .object "FlowApply$Writer"
  | 5 => .object "FlowApply$Machine"
  | 6 => .object "FlowApply$Scene"
  | 7 => .object "FlowApply$Scene"
  | _ => .int
theorem fa_lay0 : ∀ k, k < 9 → u_lay "FlowApply" fa_F0 k ∈ fa_wG := fun k hk => match k, hk with
  | 0, _ => wd_636
  | 1, _ => wd_638
  | 2, _ => wd_640
  | 3, _ => wd_642
  | 4, _ => wd_644
  | 5, _ => wd_646
  | 6, _ => wd_648
  | 7, _ => wd_650
  | 8, _ => wd_652
  | n + 9, h => absurd h (by omega)
theorem ck_0 : fa_CK 0 "FlowApply" fa_F0 9 fa_T0 := ⟨by decide, rfl, rfl, fun w hw => by
  obtain ⟨k, hk, rfl⟩ := List.mem_map.mp hw
  exact fa_lay0 k (List.mem_range.mp hk), by decide +kernel, by decide +kernel⟩
def fa_T1 : Nat → FieldType := fun k => match k with
  | 0 => .object "FlowApply$Row"
  | 1 => .object "FlowApply$Row"
  | 2 => .object "FlowApply$Row"
  | 3 => .object "FlowApply$Row"
  | 4 => .object "FlowApply$Row"
  | 5 => .int
  | 6 => .int
  | _ => .boolean
theorem fa_lay1 : ∀ k, k < 8 → u_lay "FlowApply$Flow" fa_F1 k ∈ fa_wG := fun k hk => match k, hk with
  | 0, _ => wd_349
  | 1, _ => wd_351
  | 2, _ => wd_353
  | 3, _ => wd_355
  | 4, _ => wd_357
  | 5, _ => wd_359
  | 6, _ => wd_361
  | 7, _ => wd_363
  | n + 8, h => absurd h (by omega)
theorem ck_1 : fa_CK 1 "FlowApply$Flow" fa_F1 8 fa_T1 := ⟨by decide, rfl, rfl, fun w hw => by
  obtain ⟨k, hk, rfl⟩ := List.mem_map.mp hw
  exact fa_lay1 k (List.mem_range.mp hk), by decide +kernel, by decide +kernel⟩
def fa_T2 : Nat → FieldType := fun k => match k with
  | 0 => .object "FlowApply$Row"
  | 1 => .object "FlowApply$Row"
  | _ => .object "FlowApply$Row"
theorem fa_lay2 : ∀ k, k < 3 → u_lay "FlowApply$Groups" fa_F2 k ∈ fa_wG := fun k hk => match k, hk with
  | 0, _ => wd_377
  | 1, _ => wd_379
  | 2, _ => wd_381
  | n + 3, h => absurd h (by omega)
theorem ck_2 : fa_CK 2 "FlowApply$Groups" fa_F2 3 fa_T2 := ⟨by decide, rfl, rfl, fun w hw => by
  obtain ⟨k, hk, rfl⟩ := List.mem_map.mp hw
  exact fa_lay2 k (List.mem_range.mp hk), by decide +kernel, by decide +kernel⟩
def fa_T3 : Nat → FieldType := fun k => match k with
  | 0 => .object "FlowApply$Row"
  | 1 => .object "FlowApply$Row"
  | 2 => .object "FlowApply$Row"
  | 3 => .object "FlowApply$Row"
  | 4 => .object "FlowApply$Row"
  | 5 => .int
  | 6 => .int
  | 7 => .int
  | 8 => .int
  | 9 => .int
  | 10 => .int
  | _ => .int
theorem fa_lay3 : ∀ k, k < 12 → u_lay "FlowApply$Machine" fa_F3 k ∈ fa_wG := fun k hk => match k, hk with
  | 0, _ => wd_252
  | 1, _ => wd_254
  | 2, _ => wd_256
  | 3, _ => wd_258
  | 4, _ => wd_260
  | 5, _ => wd_262
  | 6, _ => wd_264
  | 7, _ => wd_266
  | 8, _ => wd_268
  | 9, _ => wd_270
  | 10, _ => wd_272
  | 11, _ => wd_274
  | n + 12, h => absurd h (by omega)
theorem ck_3 : fa_CK 3 "FlowApply$Machine" fa_F3 12 fa_T3 := ⟨by decide, rfl, rfl, fun w hw => by
  obtain ⟨k, hk, rfl⟩ := List.mem_map.mp hw
  exact fa_lay3 k (List.mem_range.mp hk), by decide +kernel, by decide +kernel⟩
def fa_T4 : Nat → FieldType := fun k => match k with
  | 0 => .object "FlowApply$Row"
  | 1 => .object "FlowApply$Row"
  | 2 => .object "FlowApply$Row"
  | 3 => .object "FlowApply$Row"
  | 4 => .object "FlowApply$Row"
  | 5 => .object "FlowApply$Row"
  | 6 => .object "FlowApply$Row"
  | 7 => .object "FlowApply$Row"
  | 8 => .object "FlowApply$Row"
  | 9 => .object "FlowApply$Row"
  | 10 => .object "FlowApply$Row"
  | 11 => .object "FlowApply$Row"
  | 12 => .object "FlowApply$Row"
  | 13 => .int
  | 14 => .int
  | 15 => .int
  | _ => .int
theorem fa_lay4 : ∀ k, k < 17 → u_lay "FlowApply$Program" fa_F4 k ∈ fa_wG := fun k hk => match k, hk with
  | 0, _ => wd_113
  | 1, _ => wd_115
  | 2, _ => wd_117
  | 3, _ => wd_119
  | 4, _ => wd_121
  | 5, _ => wd_123
  | 6, _ => wd_125
  | 7, _ => wd_127
  | 8, _ => wd_129
  | 9, _ => wd_131
  | 10, _ => wd_133
  | 11, _ => wd_135
  | 12, _ => wd_137
  | 13, _ => wd_139
  | 14, _ => wd_141
  | 15, _ => wd_143
  | 16, _ => wd_145
  | n + 17, h => absurd h (by omega)
theorem ck_4 : fa_CK 4 "FlowApply$Program" fa_F4 17 fa_T4 := ⟨by decide, rfl, rfl, fun w hw => by
  obtain ⟨k, hk, rfl⟩ := List.mem_map.mp hw
  exact fa_lay4 k (List.mem_range.mp hk), by decide +kernel, by decide +kernel⟩
def fa_T5 : Nat → FieldType := fun k => match k with
  | 0 => .object "FlowApply$Program"
  | 1 => .object "FlowApply$Row"
  | 2 => .object "FlowApply$Row"
  | 3 => .int
  | 4 => .int
  | 5 => .int
  | 6 => .int
  | 7 => .int
  | 8 => .int
  | 9 => .int
  | 10 => .int
  | 11 => .int
  | _ => .int
theorem fa_lay5 : ∀ k, k < 13 → u_lay "FlowApply$Reader" fa_F5 k ∈ fa_wG := fun k hk => match k, hk with
  | 0, _ => wd_164
  | 1, _ => wd_166
  | 2, _ => wd_168
  | 3, _ => wd_170
  | 4, _ => wd_172
  | 5, _ => wd_174
  | 6, _ => wd_176
  | 7, _ => wd_178
  | 8, _ => wd_180
  | 9, _ => wd_182
  | 10, _ => wd_184
  | 11, _ => wd_186
  | 12, _ => wd_188
  | n + 13, h => absurd h (by omega)
theorem ck_5 : fa_CK 5 "FlowApply$Reader" fa_F5 13 fa_T5 := ⟨by decide, rfl, rfl, fun w hw => by
  obtain ⟨k, hk, rfl⟩ := List.mem_map.mp hw
  exact fa_lay5 k (List.mem_range.mp hk), by decide +kernel, by decide +kernel⟩
def fa_T6 : Nat → FieldType := fun k => match k with
  | 0 => .array .int
  | _ => .int
theorem fa_lay6 : ∀ k, k < 2 → u_lay "FlowApply$Row" fa_F6 k ∈ fa_wG := fun k hk => match k, hk with
  | 0, _ => wd_45
  | 1, _ => wd_47
  | n + 2, h => absurd h (by omega)
theorem ck_6 : fa_CK 6 "FlowApply$Row" fa_F6 2 fa_T6 := ⟨by decide, rfl, rfl, fun w hw => by
  obtain ⟨k, hk, rfl⟩ := List.mem_map.mp hw
  exact fa_lay6 k (List.mem_range.mp hk), by decide +kernel, by decide +kernel⟩
def fa_T7 : Nat → FieldType := fun k => match k with
  | 0 => .object "FlowApply$Program"
  | 1 => .object "FlowApply$Typing"
  | 2 => .object "FlowApply$Flow"
  | _ => .object "FlowApply$Groups"
theorem fa_lay7 : ∀ k, k < 4 → u_lay "FlowApply$Scene" fa_F7 k ∈ fa_wG := fun k hk => match k, hk with
  | 0, _ => wd_399
  | 1, _ => wd_401
  | 2, _ => wd_403
  | 3, _ => wd_405
  | n + 4, h => absurd h (by omega)
theorem ck_7 : fa_CK 7 "FlowApply$Scene" fa_F7 4 fa_T7 := ⟨by decide, rfl, rfl, fun w hw => by
  obtain ⟨k, hk, rfl⟩ := List.mem_map.mp hw
  exact fa_lay7 k (List.mem_range.mp hk), by decide +kernel, by decide +kernel⟩
def fa_T8 : Nat → FieldType := fun k => match k with
  | 0 => .object "FlowApply$Row"
  | 1 => .object "FlowApply$Row"
  | 2 => .object "FlowApply$Row"
  | 3 => .object "FlowApply$Row"
  | 4 => .object "FlowApply$Row"
  | 5 => .object "FlowApply$Row"
  | 6 => .object "FlowApply$Row"
  | 7 => .object "FlowApply$Row"
  | _ => .boolean
theorem fa_lay8 : ∀ k, k < 9 → u_lay "FlowApply$Typing" fa_F8 k ∈ fa_wG := fun k hk => match k, hk with
  | 0, _ => wd_305
  | 1, _ => wd_307
  | 2, _ => wd_309
  | 3, _ => wd_311
  | 4, _ => wd_313
  | 5, _ => wd_315
  | 6, _ => wd_317
  | 7, _ => wd_319
  | 8, _ => wd_321
  | n + 9, h => absurd h (by omega)
theorem ck_8 : fa_CK 8 "FlowApply$Typing" fa_F8 9 fa_T8 := ⟨by decide, rfl, rfl, fun w hw => by
  obtain ⟨k, hk, rfl⟩ := List.mem_map.mp hw
  exact fa_lay8 k (List.mem_range.mp hk), by decide +kernel, by decide +kernel⟩
def fa_T9 : Nat → FieldType := fun k => match k with
  | 0 => .object "FlowApply$Row"
  | 1 => .object "FlowApply$Row"
  | 2 => .object "FlowApply$Row"
  | 3 => .object "FlowApply$Row"
  | _ => .int
theorem fa_lay9 : ∀ k, k < 5 → u_lay "FlowApply$Writer" fa_F9 k ∈ fa_wG := fun k hk => match k, hk with
  | 0, _ => wd_204
  | 1, _ => wd_206
  | 2, _ => wd_208
  | 3, _ => wd_210
  | 4, _ => wd_212
  | n + 5, h => absurd h (by omega)
theorem ck_9 : fa_CK 9 "FlowApply$Writer" fa_F9 5 fa_T9 := ⟨by decide, rfl, rfl, fun w hw => by
  obtain ⟨k, hk, rfl⟩ := List.mem_map.mp hw
  exact fa_lay9 k (List.mem_range.mp hk), by decide +kernel, by decide +kernel⟩
def fa_T10 : Nat → FieldType := fun k => match k with
  | 0 => .int
  | 1 => .array .byte
  | 2 => .int
  | 3 => .array .int
  | 4 => .array .int
  | 5 => .array .int
  | 6 => .array .int
  | 7 => .array .int
  | 8 => .array .int
  | 9 => .array .int
  | 10 => .array .int
  | 11 => .array .int
  | 12 => .array .int
  | 13 => .array .int
  | 14 => .array .int
  | 15 => .array .int
  | 16 => .int
  | 17 => .int
  | 18 => .int
  | 19 => .int
  | 20 => .int
  | 21 => .int
  | 22 => .array .byte
  | 23 => .array .byte
  | 24 => .int
  | 25 => .int
  | 26 => .int
  | 27 => .int
  | 28 => .int
  | 29 => .int
  | 30 => .int
  | 31 => .boolean
  | 32 => .array .int
  | 33 => .int
  | 34 => .int
  | 35 => .int
  | 36 => .array .int
  | 37 => .array .int
  | 38 => .array .int
  | 39 => .array .int
  | 40 => .array .int
  | 41 => .array .int
  | 42 => .array .int
  | 43 => .int
  | 44 => .boolean
  | 45 => .array .int
  | 46 => .array .int
  | 47 => .array .int
  | 48 => .array .int
  | 49 => .array .int
  | 50 => .array .int
  | 51 => .array .boolean
  | 52 => .int
  | 53 => .int
  | 54 => .int
  | 55 => .int
  | 56 => .array .int
  | 57 => .array .int
  | 58 => .array .int
  | 59 => .array .int
  | 60 => .array .int
  | 61 => .array .int
  | 62 => .array .int
  | 63 => .array .int
  | 64 => .int
  | 65 => .array .int
  | 66 => .array .int
  | 67 => .array .int
  | 68 => .int
  | 69 => .int
  | 70 => .int
  | 71 => .array .byte
  | 72 => .int
  | 73 => .array .int
  | 74 => .int
  | 75 => .array .int
  | 76 => .array .int
  | 77 => .array .int
  | 78 => .array .int
  | 79 => .array .int
  | 80 => .array .int
  | 81 => .array .int
  | 82 => .array .int
  | 83 => .array .int
  | 84 => .array .int
  | 85 => .array .int
  | 86 => .int
  | 87 => .int
  | 88 => .int
  | 89 => .int
  | 90 => .int
  | 91 => .int
  | 92 => .int
  | _ => .int
theorem fa_lay10 : ∀ k, k < 94 → u_lay "FlowApplyModel" fa_F10 k ∈ fa_wG := fun k hk => match k, hk with
  | 0, _ => wd_1835
  | 1, _ => wd_1837
  | 2, _ => wd_1839
  | 3, _ => wd_1841
  | 4, _ => wd_1843
  | 5, _ => wd_1845
  | 6, _ => wd_1847
  | 7, _ => wd_1849
  | 8, _ => wd_1851
  | 9, _ => wd_1853
  | 10, _ => wd_1855
  | 11, _ => wd_1857
  | 12, _ => wd_1859
  | 13, _ => wd_1861
  | 14, _ => wd_1863
  | 15, _ => wd_1865
  | 16, _ => wd_1867
  | 17, _ => wd_1869
  | 18, _ => wd_1871
  | 19, _ => wd_1873
  | 20, _ => wd_1875
  | 21, _ => wd_1877
  | 22, _ => wd_1879
  | 23, _ => wd_1881
  | 24, _ => wd_1883
  | 25, _ => wd_1885
  | 26, _ => wd_1887
  | 27, _ => wd_1889
  | 28, _ => wd_1891
  | 29, _ => wd_1893
  | 30, _ => wd_1895
  | 31, _ => wd_1897
  | 32, _ => wd_1899
  | 33, _ => wd_1901
  | 34, _ => wd_1903
  | 35, _ => wd_1905
  | 36, _ => wd_1907
  | 37, _ => wd_1909
  | 38, _ => wd_1911
  | 39, _ => wd_1913
  | 40, _ => wd_1915
  | 41, _ => wd_1917
  | 42, _ => wd_1919
  | 43, _ => wd_1921
  | 44, _ => wd_1923
  | 45, _ => wd_1925
  | 46, _ => wd_1927
  | 47, _ => wd_1929
  | 48, _ => wd_1931
  | 49, _ => wd_1933
  | 50, _ => wd_1935
  | 51, _ => wd_1937
  | 52, _ => wd_1939
  | 53, _ => wd_1941
  | 54, _ => wd_1943
  | 55, _ => wd_1945
  | 56, _ => wd_1947
  | 57, _ => wd_1949
  | 58, _ => wd_1951
  | 59, _ => wd_1953
  | 60, _ => wd_1955
  | 61, _ => wd_1957
  | 62, _ => wd_1959
  | 63, _ => wd_1961
  | 64, _ => wd_1963
  | 65, _ => wd_1965
  | 66, _ => wd_1967
  | 67, _ => wd_1969
  | 68, _ => wd_1971
  | 69, _ => wd_1973
  | 70, _ => wd_1975
  | 71, _ => wd_1977
  | 72, _ => wd_1979
  | 73, _ => wd_1981
  | 74, _ => wd_1983
  | 75, _ => wd_1985
  | 76, _ => wd_1987
  | 77, _ => wd_1989
  | 78, _ => wd_1991
  | 79, _ => wd_1993
  | 80, _ => wd_1995
  | 81, _ => wd_1997
  | 82, _ => wd_1999
  | 83, _ => wd_2001
  | 84, _ => wd_2003
  | 85, _ => wd_2005
  | 86, _ => wd_2007
  | 87, _ => wd_2009
  | 88, _ => wd_2011
  | 89, _ => wd_2013
  | 90, _ => wd_2015
  | 91, _ => wd_2017
  | 92, _ => wd_2019
  | 93, _ => wd_2021
  | n + 94, h => absurd h (by omega)
theorem ck_10 : fa_CK 10 "FlowApplyModel" fa_F10 94 fa_T10 := ⟨by decide, rfl, rfl, fun w hw => by
  obtain ⟨k, hk, rfl⟩ := List.mem_map.mp hw
  exact fa_lay10 k (List.mem_range.mp hk), by decide +kernel, by decide +kernel⟩
theorem fa_nd : ∀ o, 238 ≤ o → fa_sh o = (99, 0) := fun o h => by
  unfold fa_sh
  rw [List.getD_eq_getElem?_getD, List.getElem?_eq_none (Nat.le_trans (by decide +kernel) h)]
  rfl
def fa_NX : Nat := 181
def fa_TX : Nat := 182
def fa_NM : Nat := 237
def fa_TM : Nat := 237
theorem fa_all {P : Nat → Prop} [DecidablePred P] (h : (List.range 238).all (fun o => decide (P o)) = true) (hd : ∀ o, 238 ≤ o → P o) : ∀ o, P o := fun o => by
  rcases Nat.lt_or_ge o 238 with q | q
  · exact of_decide_eq_true (List.all_eq_true.mp h o (List.mem_range.mpr q))
  · exact hd o q
theorem fa_xN : ∀ o, (fa_sh o).1 < 10 → o < fa_NX := fa_all (by decide +kernel) (fun o h q => by rw [fa_nd o h] at q; exact absurd q (by decide))
theorem fa_xT : ∀ o, (fa_sh o).1 < 10 → ∀ k, fa_tm o k < fa_TX := fun o h k => by
  have h2 : ∀ o, (fa_sh o).1 < 10 → ((fa_tmL.getD o []).all (fun t => decide (t < fa_TX))) = true := fa_all (by decide +kernel) (fun o h q => by rw [fa_nd o h] at q; exact absurd q (by decide))
  have h3 := List.all_eq_true.mp (h2 o h)
  unfold fa_tm
  rw [List.getD_eq_getElem?_getD]
  cases hk : (fa_tmL.getD o [])[k]? with
  | none => exact by decide
  | some t => exact of_decide_eq_true (h3 t (List.mem_of_getElem? hk))
theorem fa_r0_0 : ∀ o, (fa_sh o).1 = 0 → (fa_sh (fa_rf o 0)).1 = 6 := fa_all (by decide +kernel) (fun o h q => by rw [fa_nd o h] at q; exact absurd q (by decide))
theorem fa_r0_1 : ∀ o, (fa_sh o).1 = 0 → (fa_sh (fa_rf o 1)).1 = 6 := fa_all (by decide +kernel) (fun o h q => by rw [fa_nd o h] at q; exact absurd q (by decide))
theorem fa_r0_2 : ∀ o, (fa_sh o).1 = 0 → (fa_sh (fa_rf o 2)).1 = 6 := fa_all (by decide +kernel) (fun o h q => by rw [fa_nd o h] at q; exact absurd q (by decide))
theorem fa_r0_3 : ∀ o, (fa_sh o).1 = 0 → (fa_sh (fa_rf o 3)).1 = 5 := fa_all (by decide +kernel) (fun o h q => by rw [fa_nd o h] at q; exact absurd q (by decide))
theorem fa_r0_4 : ∀ o, (fa_sh o).1 = 0 → (fa_sh (fa_rf o 4)).1 = 9 := fa_all (by decide +kernel) (fun o h q => by rw [fa_nd o h] at q; exact absurd q (by decide))
theorem fa_r0_5 : ∀ o, (fa_sh o).1 = 0 → (fa_sh (fa_rf o 5)).1 = 3 := fa_all (by decide +kernel) (fun o h q => by rw [fa_nd o h] at q; exact absurd q (by decide))
theorem fa_r1_0 : ∀ o, (fa_sh o).1 = 1 → (fa_sh (fa_rf o 0)).1 = 6 := fa_all (by decide +kernel) (fun o h q => by rw [fa_nd o h] at q; exact absurd q (by decide))
theorem fa_r1_1 : ∀ o, (fa_sh o).1 = 1 → (fa_sh (fa_rf o 1)).1 = 6 := fa_all (by decide +kernel) (fun o h q => by rw [fa_nd o h] at q; exact absurd q (by decide))
theorem fa_r1_2 : ∀ o, (fa_sh o).1 = 1 → (fa_sh (fa_rf o 2)).1 = 6 := fa_all (by decide +kernel) (fun o h q => by rw [fa_nd o h] at q; exact absurd q (by decide))
theorem fa_r1_3 : ∀ o, (fa_sh o).1 = 1 → (fa_sh (fa_rf o 3)).1 = 6 := fa_all (by decide +kernel) (fun o h q => by rw [fa_nd o h] at q; exact absurd q (by decide))
theorem fa_r1_4 : ∀ o, (fa_sh o).1 = 1 → (fa_sh (fa_rf o 4)).1 = 6 := fa_all (by decide +kernel) (fun o h q => by rw [fa_nd o h] at q; exact absurd q (by decide))
theorem fa_r2_0 : ∀ o, (fa_sh o).1 = 2 → (fa_sh (fa_rf o 0)).1 = 6 := fa_all (by decide +kernel) (fun o h q => by rw [fa_nd o h] at q; exact absurd q (by decide))
theorem fa_r2_1 : ∀ o, (fa_sh o).1 = 2 → (fa_sh (fa_rf o 1)).1 = 6 := fa_all (by decide +kernel) (fun o h q => by rw [fa_nd o h] at q; exact absurd q (by decide))
theorem fa_r2_2 : ∀ o, (fa_sh o).1 = 2 → (fa_sh (fa_rf o 2)).1 = 6 := fa_all (by decide +kernel) (fun o h q => by rw [fa_nd o h] at q; exact absurd q (by decide))
theorem fa_r3_0 : ∀ o, (fa_sh o).1 = 3 → (fa_sh (fa_rf o 0)).1 = 6 := fa_all (by decide +kernel) (fun o h q => by rw [fa_nd o h] at q; exact absurd q (by decide))
theorem fa_r3_1 : ∀ o, (fa_sh o).1 = 3 → (fa_sh (fa_rf o 1)).1 = 6 := fa_all (by decide +kernel) (fun o h q => by rw [fa_nd o h] at q; exact absurd q (by decide))
theorem fa_r3_2 : ∀ o, (fa_sh o).1 = 3 → (fa_sh (fa_rf o 2)).1 = 6 := fa_all (by decide +kernel) (fun o h q => by rw [fa_nd o h] at q; exact absurd q (by decide))
theorem fa_r3_3 : ∀ o, (fa_sh o).1 = 3 → (fa_sh (fa_rf o 3)).1 = 6 := fa_all (by decide +kernel) (fun o h q => by rw [fa_nd o h] at q; exact absurd q (by decide))
theorem fa_r3_4 : ∀ o, (fa_sh o).1 = 3 → (fa_sh (fa_rf o 4)).1 = 6 := fa_all (by decide +kernel) (fun o h q => by rw [fa_nd o h] at q; exact absurd q (by decide))
theorem fa_r4_0 : ∀ o, (fa_sh o).1 = 4 → (fa_sh (fa_rf o 0)).1 = 6 := fa_all (by decide +kernel) (fun o h q => by rw [fa_nd o h] at q; exact absurd q (by decide))
theorem fa_r4_1 : ∀ o, (fa_sh o).1 = 4 → (fa_sh (fa_rf o 1)).1 = 6 := fa_all (by decide +kernel) (fun o h q => by rw [fa_nd o h] at q; exact absurd q (by decide))
theorem fa_r4_2 : ∀ o, (fa_sh o).1 = 4 → (fa_sh (fa_rf o 2)).1 = 6 := fa_all (by decide +kernel) (fun o h q => by rw [fa_nd o h] at q; exact absurd q (by decide))
theorem fa_r4_3 : ∀ o, (fa_sh o).1 = 4 → (fa_sh (fa_rf o 3)).1 = 6 := fa_all (by decide +kernel) (fun o h q => by rw [fa_nd o h] at q; exact absurd q (by decide))
theorem fa_r4_4 : ∀ o, (fa_sh o).1 = 4 → (fa_sh (fa_rf o 4)).1 = 6 := fa_all (by decide +kernel) (fun o h q => by rw [fa_nd o h] at q; exact absurd q (by decide))
theorem fa_r4_5 : ∀ o, (fa_sh o).1 = 4 → (fa_sh (fa_rf o 5)).1 = 6 := fa_all (by decide +kernel) (fun o h q => by rw [fa_nd o h] at q; exact absurd q (by decide))
theorem fa_r4_6 : ∀ o, (fa_sh o).1 = 4 → (fa_sh (fa_rf o 6)).1 = 6 := fa_all (by decide +kernel) (fun o h q => by rw [fa_nd o h] at q; exact absurd q (by decide))
theorem fa_r4_7 : ∀ o, (fa_sh o).1 = 4 → (fa_sh (fa_rf o 7)).1 = 6 := fa_all (by decide +kernel) (fun o h q => by rw [fa_nd o h] at q; exact absurd q (by decide))
theorem fa_r4_8 : ∀ o, (fa_sh o).1 = 4 → (fa_sh (fa_rf o 8)).1 = 6 := fa_all (by decide +kernel) (fun o h q => by rw [fa_nd o h] at q; exact absurd q (by decide))
theorem fa_r4_9 : ∀ o, (fa_sh o).1 = 4 → (fa_sh (fa_rf o 9)).1 = 6 := fa_all (by decide +kernel) (fun o h q => by rw [fa_nd o h] at q; exact absurd q (by decide))
theorem fa_r4_10 : ∀ o, (fa_sh o).1 = 4 → (fa_sh (fa_rf o 10)).1 = 6 := fa_all (by decide +kernel) (fun o h q => by rw [fa_nd o h] at q; exact absurd q (by decide))
theorem fa_r4_11 : ∀ o, (fa_sh o).1 = 4 → (fa_sh (fa_rf o 11)).1 = 6 := fa_all (by decide +kernel) (fun o h q => by rw [fa_nd o h] at q; exact absurd q (by decide))
theorem fa_r4_12 : ∀ o, (fa_sh o).1 = 4 → (fa_sh (fa_rf o 12)).1 = 6 := fa_all (by decide +kernel) (fun o h q => by rw [fa_nd o h] at q; exact absurd q (by decide))
theorem fa_r5_0 : ∀ o, (fa_sh o).1 = 5 → (fa_sh (fa_rf o 0)).1 = 4 := fa_all (by decide +kernel) (fun o h q => by rw [fa_nd o h] at q; exact absurd q (by decide))
theorem fa_r5_1 : ∀ o, (fa_sh o).1 = 5 → (fa_sh (fa_rf o 1)).1 = 6 := fa_all (by decide +kernel) (fun o h q => by rw [fa_nd o h] at q; exact absurd q (by decide))
theorem fa_r5_2 : ∀ o, (fa_sh o).1 = 5 → (fa_sh (fa_rf o 2)).1 = 6 := fa_all (by decide +kernel) (fun o h q => by rw [fa_nd o h] at q; exact absurd q (by decide))
theorem fa_r6_0 : ∀ o, (fa_sh o).1 = 6 → fa_sh (fa_rf o 0) = (100, (fa_sh (fa_rf o 0)).2) ∧ fa_rf o 0 < fa_NX := fa_all (by decide +kernel) (fun o h q => by rw [fa_nd o h] at q; exact absurd q (by decide))
theorem fa_r7_0 : ∀ o, (fa_sh o).1 = 7 → (fa_sh (fa_rf o 0)).1 = 4 := fa_all (by decide +kernel) (fun o h q => by rw [fa_nd o h] at q; exact absurd q (by decide))
theorem fa_r7_1 : ∀ o, (fa_sh o).1 = 7 → (fa_sh (fa_rf o 1)).1 = 8 := fa_all (by decide +kernel) (fun o h q => by rw [fa_nd o h] at q; exact absurd q (by decide))
theorem fa_r7_2 : ∀ o, (fa_sh o).1 = 7 → (fa_sh (fa_rf o 2)).1 = 1 := fa_all (by decide +kernel) (fun o h q => by rw [fa_nd o h] at q; exact absurd q (by decide))
theorem fa_r7_3 : ∀ o, (fa_sh o).1 = 7 → (fa_sh (fa_rf o 3)).1 = 2 := fa_all (by decide +kernel) (fun o h q => by rw [fa_nd o h] at q; exact absurd q (by decide))
theorem fa_r8_0 : ∀ o, (fa_sh o).1 = 8 → (fa_sh (fa_rf o 0)).1 = 6 := fa_all (by decide +kernel) (fun o h q => by rw [fa_nd o h] at q; exact absurd q (by decide))
theorem fa_r8_1 : ∀ o, (fa_sh o).1 = 8 → (fa_sh (fa_rf o 1)).1 = 6 := fa_all (by decide +kernel) (fun o h q => by rw [fa_nd o h] at q; exact absurd q (by decide))
theorem fa_r8_2 : ∀ o, (fa_sh o).1 = 8 → (fa_sh (fa_rf o 2)).1 = 6 := fa_all (by decide +kernel) (fun o h q => by rw [fa_nd o h] at q; exact absurd q (by decide))
theorem fa_r8_3 : ∀ o, (fa_sh o).1 = 8 → (fa_sh (fa_rf o 3)).1 = 6 := fa_all (by decide +kernel) (fun o h q => by rw [fa_nd o h] at q; exact absurd q (by decide))
theorem fa_r8_4 : ∀ o, (fa_sh o).1 = 8 → (fa_sh (fa_rf o 4)).1 = 6 := fa_all (by decide +kernel) (fun o h q => by rw [fa_nd o h] at q; exact absurd q (by decide))
theorem fa_r8_5 : ∀ o, (fa_sh o).1 = 8 → (fa_sh (fa_rf o 5)).1 = 6 := fa_all (by decide +kernel) (fun o h q => by rw [fa_nd o h] at q; exact absurd q (by decide))
theorem fa_r8_6 : ∀ o, (fa_sh o).1 = 8 → (fa_sh (fa_rf o 6)).1 = 6 := fa_all (by decide +kernel) (fun o h q => by rw [fa_nd o h] at q; exact absurd q (by decide))
theorem fa_r8_7 : ∀ o, (fa_sh o).1 = 8 → (fa_sh (fa_rf o 7)).1 = 6 := fa_all (by decide +kernel) (fun o h q => by rw [fa_nd o h] at q; exact absurd q (by decide))
theorem fa_r9_0 : ∀ o, (fa_sh o).1 = 9 → (fa_sh (fa_rf o 0)).1 = 6 := fa_all (by decide +kernel) (fun o h q => by rw [fa_nd o h] at q; exact absurd q (by decide))
theorem fa_r9_1 : ∀ o, (fa_sh o).1 = 9 → (fa_sh (fa_rf o 1)).1 = 6 := fa_all (by decide +kernel) (fun o h q => by rw [fa_nd o h] at q; exact absurd q (by decide))
theorem fa_r9_2 : ∀ o, (fa_sh o).1 = 9 → (fa_sh (fa_rf o 2)).1 = 6 := fa_all (by decide +kernel) (fun o h q => by rw [fa_nd o h] at q; exact absurd q (by decide))
theorem fa_r9_3 : ∀ o, (fa_sh o).1 = 9 → (fa_sh (fa_rf o 3)).1 = 6 := fa_all (by decide +kernel) (fun o h q => by rw [fa_nd o h] at q; exact absurd q (by decide))
theorem fa_scs (z : Int) : (fa_sh (fa_sc z)).1 = 7 := by unfold fa_sc; split <;> rfl
theorem fa_fvI {ci b T : Nat} {w : fa_W} {o k : Nat} (h : fa_fk ci k = 0) : fa_fv ci b T w o k = .int (fa_I (w o k)) := by unfold fa_fv; rw [h]; rfl
theorem fa_fvR {ci b T : Nat} {w : fa_W} {o k : Nat} (h : fa_fk ci k = 1) (ht : fa_tm o k < T) : fa_fv ci b T w o k = .ref (b + fa_rf o k) := by unfold fa_fv; rw [h]; exact if_pos ht
theorem fa_fvS {ci b T : Nat} {w : fa_W} {o k : Nat} (h : fa_fk ci k = 2) (ht : fa_tm o k < T) : fa_fv ci b T w o k = .ref (b + fa_sc (w o k)) := by unfold fa_fv; rw [h]; exact if_pos ht
theorem fa_fvB {ci b T : Nat} {w : fa_W} {o k : Nat} (h : fa_fk ci k = 3) : fa_fv ci b T w o k = .int (fa_I (fa_bi (decide (w o k ≠ 0)))) := by unfold fa_fv; rw [h]; rfl
theorem fa_fvI' {ci b T : Nat} {w : fa_W} {o k : Nat} {z : Int} (h : fa_fk ci k = 0) : fa_fv ci b T (fa_st w o k z) o k = .int (fa_I z) := by rw [fa_fvI h, fa_st_eq]
theorem fa_fvS' {ci b T : Nat} {w : fa_W} {o k : Nat} {z : Int} (h : fa_fk ci k = 2) (ht : fa_tm o k < T) : fa_fv ci b T (fa_st w o k z) o k = .ref (b + fa_sc z) := by rw [fa_fvS h ht, fa_st_eq]
theorem fa_fvB' {ci b T : Nat} {w : fa_W} {o k : Nat} {B : Bool} (h : fa_fk ci k = 3) : fa_fv ci b T (fa_st w o k (fa_bi B)) o k = .int (fa_I (fa_bi B)) := by rw [fa_fvB h, fa_st_eq]; cases B <;> rfl
