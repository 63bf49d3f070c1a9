/-! THE LAW: every instruction decoded so. Printed by wip/whole/gen/law.py -/
theorem ai_all_app {α : Type} {f : α → Bool} {a b : List α} (h1 : a.all f = true) (h2 : b.all f = true) : (a ++ b).all f = true := by rw [List.all_append, h1, h2]; rfl
set_option maxRecDepth 100000 in
theorem ai_lawC0_ok : ai_lawC0.all (fun q => ai_rok code ret 1 q && ai_noc q.2) = true := by decide +kernel
set_option maxRecDepth 100000 in
theorem ai_lawC1_ok : ai_lawC1.all (fun q => ai_rok code ret 1 q && ai_noc q.2) = true := by decide +kernel
set_option maxRecDepth 100000 in
theorem ai_lawC2_ok : ai_lawC2.all (fun q => ai_rok code ret 1 q && ai_noc q.2) = true := by decide +kernel
set_option maxRecDepth 100000 in
theorem ai_lawC3_ok : ai_lawC3.all (fun q => ai_rok code ret 1 q && ai_noc q.2) = true := by decide +kernel
set_option maxRecDepth 100000 in
theorem ai_lawC4_ok : ai_lawC4.all (fun q => ai_rok code ret 1 q && ai_noc q.2) = true := by decide +kernel
set_option maxRecDepth 100000 in
theorem ai_lawC5_ok : ai_lawC5.all (fun q => ai_rok code ret 1 q && ai_noc q.2) = true := by decide +kernel
set_option maxRecDepth 100000 in
theorem ai_lawC6_ok : ai_lawC6.all (fun q => ai_rok code ret 1 q && ai_noc q.2) = true := by decide +kernel
set_option maxRecDepth 100000 in
theorem ai_lawC7_ok : ai_lawC7.all (fun q => ai_rok code ret 1 q && ai_noc q.2) = true := by decide +kernel
set_option maxRecDepth 100000 in
theorem ai_lawC8_ok : ai_lawC8.all (fun q => ai_rok code ret 1 q && ai_noc q.2) = true := by decide +kernel
set_option maxRecDepth 100000 in
theorem ai_lawC9_ok : ai_lawC9.all (fun q => ai_rok code ret 1 q && ai_noc q.2) = true := by decide +kernel
set_option maxRecDepth 100000 in
theorem ai_lawC10_ok : ai_lawC10.all (fun q => ai_rok code ret 1 q && ai_noc q.2) = true := by decide +kernel
set_option maxRecDepth 100000 in
theorem ai_lawC11_ok : ai_lawC11.all (fun q => ai_rok code ret 1 q && ai_noc q.2) = true := by decide +kernel
set_option maxRecDepth 100000 in
theorem ai_lawC12_ok : ai_lawC12.all (fun q => ai_rok code ret 1 q && ai_noc q.2) = true := by decide +kernel
set_option maxRecDepth 100000 in
theorem ai_lawC13_ok : ai_lawC13.all (fun q => ai_rok code ret 1 q && ai_noc q.2) = true := by decide +kernel
set_option maxRecDepth 100000 in
theorem ai_lawC14_ok : ai_lawC14.all (fun q => ai_rok code ret 1 q && ai_noc q.2) = true := by decide +kernel
set_option maxRecDepth 100000 in
theorem ai_lawC15_ok : ai_lawC15.all (fun q => ai_rok code ret 1 q && ai_noc q.2) = true := by decide +kernel
set_option maxRecDepth 100000 in
theorem ai_lawC16_ok : ai_lawC16.all (fun q => ai_rok code ret 1 q && ai_noc q.2) = true := by decide +kernel
set_option maxRecDepth 100000 in
theorem ai_lawC17_ok : ai_lawC17.all (fun q => ai_rok code ret 1 q && ai_noc q.2) = true := by decide +kernel
set_option maxRecDepth 100000 in
theorem ai_lawC18_ok : ai_lawC18.all (fun q => ai_rok code ret 1 q && ai_noc q.2) = true := by decide +kernel
set_option maxRecDepth 100000 in
theorem ai_lawC19_ok : ai_lawC19.all (fun q => ai_rok code ret 1 q && ai_noc q.2) = true := by decide +kernel
set_option maxRecDepth 100000 in
theorem ai_lawC20_ok : ai_lawC20.all (fun q => ai_rok code ret 1 q && ai_noc q.2) = true := by decide +kernel
set_option maxRecDepth 100000 in
theorem ai_lawC21_ok : ai_lawC21.all (fun q => ai_rok code ret 1 q && ai_noc q.2) = true := by decide +kernel
set_option maxRecDepth 100000 in
theorem ai_lawC22_ok : ai_lawC22.all (fun q => ai_rok code ret 1 q && ai_noc q.2) = true := by decide +kernel
set_option maxRecDepth 100000 in
theorem ai_lawC23_ok : ai_lawC23.all (fun q => ai_rok code ret 1 q && ai_noc q.2) = true := by decide +kernel
set_option maxRecDepth 100000 in
theorem ai_lawC24_ok : ai_lawC24.all (fun q => ai_rok code ret 1 q && ai_noc q.2) = true := by decide +kernel
set_option maxRecDepth 100000 in
theorem ai_lawC25_ok : ai_lawC25.all (fun q => ai_rok code ret 1 q && ai_noc q.2) = true := by decide +kernel
set_option maxRecDepth 100000 in
theorem ai_lawC26_ok : ai_lawC26.all (fun q => ai_rok code ret 1 q && ai_noc q.2) = true := by decide +kernel
set_option maxRecDepth 100000 in
theorem ai_lawC27_ok : ai_lawC27.all (fun q => ai_rok code ret 1 q && ai_noc q.2) = true := by decide +kernel
set_option maxRecDepth 100000 in
theorem ai_lawC28_ok : ai_lawC28.all (fun q => ai_rok code ret 1 q && ai_noc q.2) = true := by decide +kernel
set_option maxRecDepth 100000 in
theorem ai_lawC29_ok : ai_lawC29.all (fun q => ai_rok code ret 1 q && ai_noc q.2) = true := by decide +kernel
set_option maxRecDepth 100000 in
theorem ai_lawC30_ok : ai_lawC30.all (fun q => ai_rok code ret 1 q && ai_noc q.2) = true := by decide +kernel
set_option maxRecDepth 100000 in
theorem ai_lawC31_ok : ai_lawC31.all (fun q => ai_rok code ret 1 q && ai_noc q.2) = true := by decide +kernel
set_option maxRecDepth 100000 in
theorem ai_lawC32_ok : ai_lawC32.all (fun q => ai_rok code ret 1 q && ai_noc q.2) = true := by decide +kernel
set_option maxRecDepth 100000 in
theorem ai_lawC33_ok : ai_lawC33.all (fun q => ai_rok code ret 1 q && ai_noc q.2) = true := by decide +kernel
set_option maxRecDepth 100000 in
theorem ai_lawC34_ok : ai_lawC34.all (fun q => ai_rok code ret 1 q && ai_noc q.2) = true := by decide +kernel
set_option maxRecDepth 100000 in
theorem ai_lawC35_ok : ai_lawC35.all (fun q => ai_rok code ret 1 q && ai_noc q.2) = true := by decide +kernel
set_option maxRecDepth 100000 in
theorem ai_lawC36_ok : ai_lawC36.all (fun q => ai_rok code ret 1 q && ai_noc q.2) = true := by decide +kernel
set_option maxRecDepth 100000 in
theorem ai_lawC37_ok : ai_lawC37.all (fun q => ai_rok code ret 1 q && ai_noc q.2) = true := by decide +kernel
set_option maxRecDepth 100000 in
theorem ai_lawC38_ok : ai_lawC38.all (fun q => ai_rok code ret 1 q && ai_noc q.2) = true := by decide +kernel
set_option maxRecDepth 100000 in
theorem ai_lawC39_ok : ai_lawC39.all (fun q => ai_rok code ret 1 q && ai_noc q.2) = true := by decide +kernel
set_option maxRecDepth 100000 in
theorem ai_lawC40_ok : ai_lawC40.all (fun q => ai_rok code ret 1 q && ai_noc q.2) = true := by decide +kernel
set_option maxRecDepth 100000 in
theorem ai_lawC41_ok : ai_lawC41.all (fun q => ai_rok code ret 1 q && ai_noc q.2) = true := by decide +kernel
set_option maxRecDepth 100000 in
theorem ai_lawC42_ok : ai_lawC42.all (fun q => ai_rok code ret 1 q && ai_noc q.2) = true := by decide +kernel
set_option maxRecDepth 100000 in
theorem ai_lawC43_ok : ai_lawC43.all (fun q => ai_rok code ret 1 q && ai_noc q.2) = true := by decide +kernel
set_option maxRecDepth 100000 in
theorem ai_lawC44_ok : ai_lawC44.all (fun q => ai_rok code ret 1 q && ai_noc q.2) = true := by decide +kernel
set_option maxRecDepth 100000 in
theorem ai_lawC45_ok : ai_lawC45.all (fun q => ai_rok code ret 1 q && ai_noc q.2) = true := by decide +kernel
set_option maxRecDepth 100000 in
theorem ai_lawC46_ok : ai_lawC46.all (fun q => ai_rok code ret 1 q && ai_noc q.2) = true := by decide +kernel
set_option maxRecDepth 100000 in
theorem ai_lawC47_ok : ai_lawC47.all (fun q => ai_rok code ret 1 q && ai_noc q.2) = true := by decide +kernel
set_option maxRecDepth 100000 in
theorem ai_lawC48_ok : ai_lawC48.all (fun q => ai_rok code ret 1 q && ai_noc q.2) = true := by decide +kernel
set_option maxRecDepth 100000 in
theorem ai_lawC49_ok : ai_lawC49.all (fun q => ai_rok code ret 1 q && ai_noc q.2) = true := by decide +kernel
set_option maxRecDepth 100000 in
theorem ai_lawC50_ok : ai_lawC50.all (fun q => ai_rok code ret 1 q && ai_noc q.2) = true := by decide +kernel
set_option maxRecDepth 100000 in
theorem ai_lawC51_ok : ai_lawC51.all (fun q => ai_rok code ret 1 q && ai_noc q.2) = true := by decide +kernel
set_option maxRecDepth 100000 in
theorem ai_lawC52_ok : ai_lawC52.all (fun q => ai_rok code ret 1 q && ai_noc q.2) = true := by decide +kernel
set_option maxRecDepth 100000 in
theorem ai_lawC53_ok : ai_lawC53.all (fun q => ai_rok code ret 1 q && ai_noc q.2) = true := by decide +kernel
set_option maxRecDepth 100000 in
theorem ai_lawC54_ok : ai_lawC54.all (fun q => ai_rok code ret 1 q && ai_noc q.2) = true := by decide +kernel
set_option maxRecDepth 100000 in
theorem ai_lawC55_ok : ai_lawC55.all (fun q => ai_rok code ret 1 q && ai_noc q.2) = true := by decide +kernel
set_option maxRecDepth 100000 in
theorem ai_lawC56_ok : ai_lawC56.all (fun q => ai_rok code ret 1 q && ai_noc q.2) = true := by decide +kernel
set_option maxRecDepth 100000 in
theorem ai_lawC57_ok : ai_lawC57.all (fun q => ai_rok code ret 1 q && ai_noc q.2) = true := by decide +kernel
set_option maxRecDepth 100000 in
theorem ai_lawC58_ok : ai_lawC58.all (fun q => ai_rok code ret 1 q && ai_noc q.2) = true := by decide +kernel
set_option maxRecDepth 100000 in
theorem ai_lawC59_ok : ai_lawC59.all (fun q => ai_rok code ret 1 q && ai_noc q.2) = true := by decide +kernel
set_option maxRecDepth 100000 in
theorem ai_lawC60_ok : ai_lawC60.all (fun q => ai_rok code ret 1 q && ai_noc q.2) = true := by decide +kernel
set_option maxRecDepth 100000 in
theorem ai_lawC61_ok : ai_lawC61.all (fun q => ai_rok code ret 1 q && ai_noc q.2) = true := by decide +kernel
theorem ai_lawC_ok : ai_lawC.all (fun q => ai_rok code ret 1 q && ai_noc q.2) = true := ai_all_app ai_lawC0_ok (ai_all_app ai_lawC1_ok (ai_all_app ai_lawC2_ok (ai_all_app ai_lawC3_ok (ai_all_app ai_lawC4_ok (ai_all_app ai_lawC5_ok (ai_all_app ai_lawC6_ok (ai_all_app ai_lawC7_ok (ai_all_app ai_lawC8_ok (ai_all_app ai_lawC9_ok (ai_all_app ai_lawC10_ok (ai_all_app ai_lawC11_ok (ai_all_app ai_lawC12_ok (ai_all_app ai_lawC13_ok (ai_all_app ai_lawC14_ok (ai_all_app ai_lawC15_ok (ai_all_app ai_lawC16_ok (ai_all_app ai_lawC17_ok (ai_all_app ai_lawC18_ok (ai_all_app ai_lawC19_ok (ai_all_app ai_lawC20_ok (ai_all_app ai_lawC21_ok (ai_all_app ai_lawC22_ok (ai_all_app ai_lawC23_ok (ai_all_app ai_lawC24_ok (ai_all_app ai_lawC25_ok (ai_all_app ai_lawC26_ok (ai_all_app ai_lawC27_ok (ai_all_app ai_lawC28_ok (ai_all_app ai_lawC29_ok (ai_all_app ai_lawC30_ok (ai_all_app ai_lawC31_ok (ai_all_app ai_lawC32_ok (ai_all_app ai_lawC33_ok (ai_all_app ai_lawC34_ok (ai_all_app ai_lawC35_ok (ai_all_app ai_lawC36_ok (ai_all_app ai_lawC37_ok (ai_all_app ai_lawC38_ok (ai_all_app ai_lawC39_ok (ai_all_app ai_lawC40_ok (ai_all_app ai_lawC41_ok (ai_all_app ai_lawC42_ok (ai_all_app ai_lawC43_ok (ai_all_app ai_lawC44_ok (ai_all_app ai_lawC45_ok (ai_all_app ai_lawC46_ok (ai_all_app ai_lawC47_ok (ai_all_app ai_lawC48_ok (ai_all_app ai_lawC49_ok (ai_all_app ai_lawC50_ok (ai_all_app ai_lawC51_ok (ai_all_app ai_lawC52_ok (ai_all_app ai_lawC53_ok (ai_all_app ai_lawC54_ok (ai_all_app ai_lawC55_ok (ai_all_app ai_lawC56_ok (ai_all_app ai_lawC57_ok (ai_all_app ai_lawC58_ok (ai_all_app ai_lawC59_ok (ai_all_app ai_lawC60_ok (ai_lawC61_ok)))))))))))))))))))))))))))))))))))))))))))))))))))))))))))))
