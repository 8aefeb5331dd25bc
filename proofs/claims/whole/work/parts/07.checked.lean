theorem m_cr_0_0 : m_cr 0 0 30 = true := by decide +kernel
theorem m_cr_0_30 : m_cr 0 30 30 = true := by decide +kernel
theorem m_cr_0_60 : m_cr 0 60 30 = true := by decide +kernel
theorem m_cr_0_90 : m_cr 0 90 30 = true := by decide +kernel
theorem m_cr_0_120 : m_cr 0 120 30 = true := by decide +kernel
theorem m_cr_0_150 : m_cr 0 150 30 = true := by decide +kernel
theorem m_cr_0_180 : m_cr 0 180 30 = true := by decide +kernel
theorem m_cr_0_210 : m_cr 0 210 30 = true := by decide +kernel
theorem m_cr_0_240 : m_cr 0 240 30 = true := by decide +kernel
theorem m_cr_0_270 : m_cr 0 270 30 = true := by decide +kernel
theorem m_cr_0_300 : m_cr 0 300 30 = true := by decide +kernel
theorem m_cr_0_330 : m_cr 0 330 30 = true := by decide +kernel
theorem m_cr_0_360 : m_cr 0 360 30 = true := by decide +kernel
theorem m_cr_0_390 : m_cr 0 390 30 = true := by decide +kernel
theorem m_cr_0_420 : m_cr 0 420 30 = true := by decide +kernel
theorem m_cr_0_450 : m_cr 0 450 30 = true := by decide +kernel
theorem m_cr_0_480 : m_cr 0 480 30 = true := by decide +kernel
theorem m_cr_0_510 : m_cr 0 510 30 = true := by decide +kernel
theorem m_cr_0_540 : m_cr 0 540 30 = true := by decide +kernel
theorem m_cr_0_570 : m_cr 0 570 30 = true := by decide +kernel
theorem m_cr_0_600 : m_cr 0 600 30 = true := by decide +kernel
theorem m_cr_0_630 : m_cr 0 630 30 = true := by decide +kernel
theorem m_cr_0_660 : m_cr 0 660 30 = true := by decide +kernel
theorem m_cr_0_690 : m_cr 0 690 30 = true := by decide +kernel
theorem m_cr_0_720 : m_cr 0 720 30 = true := by decide +kernel
theorem m_cr_0_750 : m_cr 0 750 24 = true := by decide +kernel
theorem m_cf_0 (k : Nat) (hk : k < (m_code 0).length) : m_ck 0 k = true := by
  have h9 : k < 774 := Nat.lt_of_lt_of_le hk (by decide +kernel)
  by_cases c0 : k < 30
  · exact m_cr_ok m_cr_0_0 (by omega) (by omega)
  by_cases c30 : k < 60
  · exact m_cr_ok m_cr_0_30 (by omega) (by omega)
  by_cases c60 : k < 90
  · exact m_cr_ok m_cr_0_60 (by omega) (by omega)
  by_cases c90 : k < 120
  · exact m_cr_ok m_cr_0_90 (by omega) (by omega)
  by_cases c120 : k < 150
  · exact m_cr_ok m_cr_0_120 (by omega) (by omega)
  by_cases c150 : k < 180
  · exact m_cr_ok m_cr_0_150 (by omega) (by omega)
  by_cases c180 : k < 210
  · exact m_cr_ok m_cr_0_180 (by omega) (by omega)
  by_cases c210 : k < 240
  · exact m_cr_ok m_cr_0_210 (by omega) (by omega)
  by_cases c240 : k < 270
  · exact m_cr_ok m_cr_0_240 (by omega) (by omega)
  by_cases c270 : k < 300
  · exact m_cr_ok m_cr_0_270 (by omega) (by omega)
  by_cases c300 : k < 330
  · exact m_cr_ok m_cr_0_300 (by omega) (by omega)
  by_cases c330 : k < 360
  · exact m_cr_ok m_cr_0_330 (by omega) (by omega)
  by_cases c360 : k < 390
  · exact m_cr_ok m_cr_0_360 (by omega) (by omega)
  by_cases c390 : k < 420
  · exact m_cr_ok m_cr_0_390 (by omega) (by omega)
  by_cases c420 : k < 450
  · exact m_cr_ok m_cr_0_420 (by omega) (by omega)
  by_cases c450 : k < 480
  · exact m_cr_ok m_cr_0_450 (by omega) (by omega)
  by_cases c480 : k < 510
  · exact m_cr_ok m_cr_0_480 (by omega) (by omega)
  by_cases c510 : k < 540
  · exact m_cr_ok m_cr_0_510 (by omega) (by omega)
  by_cases c540 : k < 570
  · exact m_cr_ok m_cr_0_540 (by omega) (by omega)
  by_cases c570 : k < 600
  · exact m_cr_ok m_cr_0_570 (by omega) (by omega)
  by_cases c600 : k < 630
  · exact m_cr_ok m_cr_0_600 (by omega) (by omega)
  by_cases c630 : k < 660
  · exact m_cr_ok m_cr_0_630 (by omega) (by omega)
  by_cases c660 : k < 690
  · exact m_cr_ok m_cr_0_660 (by omega) (by omega)
  by_cases c690 : k < 720
  · exact m_cr_ok m_cr_0_690 (by omega) (by omega)
  by_cases c720 : k < 750
  · exact m_cr_ok m_cr_0_720 (by omega) (by omega)
  exact m_cr_ok m_cr_0_750 (by omega) (by omega)
theorem m_cr_1_0 : m_cr 1 0 7 = true := by decide +kernel
theorem m_cf_1 (k : Nat) (hk : k < (m_code 1).length) : m_ck 1 k = true := m_cr_ok m_cr_1_0 (Nat.zero_le k) (Nat.lt_of_lt_of_le hk (by decide +kernel))
theorem m_cr_2_0 : m_cr 2 0 7 = true := by decide +kernel
theorem m_cf_2 (k : Nat) (hk : k < (m_code 2).length) : m_ck 2 k = true := m_cr_ok m_cr_2_0 (Nat.zero_le k) (Nat.lt_of_lt_of_le hk (by decide +kernel))
theorem m_cr_3_0 : m_cr 3 0 42 = true := by decide +kernel
theorem m_cf_3 (k : Nat) (hk : k < (m_code 3).length) : m_ck 3 k = true := m_cr_ok m_cr_3_0 (Nat.zero_le k) (Nat.lt_of_lt_of_le hk (by decide +kernel))
theorem m_cr_4_0 : m_cr 4 0 26 = true := by decide +kernel
theorem m_cf_4 (k : Nat) (hk : k < (m_code 4).length) : m_ck 4 k = true := m_cr_ok m_cr_4_0 (Nat.zero_le k) (Nat.lt_of_lt_of_le hk (by decide +kernel))
theorem m_cr_5_0 : m_cr 5 0 8 = true := by decide +kernel
theorem m_cf_5 (k : Nat) (hk : k < (m_code 5).length) : m_ck 5 k = true := m_cr_ok m_cr_5_0 (Nat.zero_le k) (Nat.lt_of_lt_of_le hk (by decide +kernel))
theorem m_cr_6_0 : m_cr 6 0 8 = true := by decide +kernel
theorem m_cf_6 (k : Nat) (hk : k < (m_code 6).length) : m_ck 6 k = true := m_cr_ok m_cr_6_0 (Nat.zero_le k) (Nat.lt_of_lt_of_le hk (by decide +kernel))
theorem m_cr_7_0 : m_cr 7 0 5 = true := by decide +kernel
theorem m_cf_7 (k : Nat) (hk : k < (m_code 7).length) : m_ck 7 k = true := m_cr_ok m_cr_7_0 (Nat.zero_le k) (Nat.lt_of_lt_of_le hk (by decide +kernel))
theorem m_cr_8_0 : m_cr 8 0 9 = true := by decide +kernel
theorem m_cf_8 (k : Nat) (hk : k < (m_code 8).length) : m_ck 8 k = true := m_cr_ok m_cr_8_0 (Nat.zero_le k) (Nat.lt_of_lt_of_le hk (by decide +kernel))
theorem m_cr_9_0 : m_cr 9 0 10 = true := by decide +kernel
theorem m_cf_9 (k : Nat) (hk : k < (m_code 9).length) : m_ck 9 k = true := m_cr_ok m_cr_9_0 (Nat.zero_le k) (Nat.lt_of_lt_of_le hk (by decide +kernel))
theorem m_cr_10_0 : m_cr 10 0 59 = true := by decide +kernel
theorem m_cf_10 (k : Nat) (hk : k < (m_code 10).length) : m_ck 10 k = true := m_cr_ok m_cr_10_0 (Nat.zero_le k) (Nat.lt_of_lt_of_le hk (by decide +kernel))
theorem m_cr_11_0 : m_cr 11 0 20 = true := by decide +kernel
theorem m_cf_11 (k : Nat) (hk : k < (m_code 11).length) : m_ck 11 k = true := m_cr_ok m_cr_11_0 (Nat.zero_le k) (Nat.lt_of_lt_of_le hk (by decide +kernel))
theorem m_cr_12_0 : m_cr 12 0 12 = true := by decide +kernel
theorem m_cf_12 (k : Nat) (hk : k < (m_code 12).length) : m_ck 12 k = true := m_cr_ok m_cr_12_0 (Nat.zero_le k) (Nat.lt_of_lt_of_le hk (by decide +kernel))
theorem m_cr_13_0 : m_cr 13 0 14 = true := by decide +kernel
theorem m_cf_13 (k : Nat) (hk : k < (m_code 13).length) : m_ck 13 k = true := m_cr_ok m_cr_13_0 (Nat.zero_le k) (Nat.lt_of_lt_of_le hk (by decide +kernel))
theorem m_cr_14_0 : m_cr 14 0 22 = true := by decide +kernel
theorem m_cf_14 (k : Nat) (hk : k < (m_code 14).length) : m_ck 14 k = true := m_cr_ok m_cr_14_0 (Nat.zero_le k) (Nat.lt_of_lt_of_le hk (by decide +kernel))
theorem m_cr_15_0 : m_cr 15 0 34 = true := by decide +kernel
theorem m_cf_15 (k : Nat) (hk : k < (m_code 15).length) : m_ck 15 k = true := m_cr_ok m_cr_15_0 (Nat.zero_le k) (Nat.lt_of_lt_of_le hk (by decide +kernel))
theorem m_cr_16_0 : m_cr 16 0 7 = true := by decide +kernel
theorem m_cf_16 (k : Nat) (hk : k < (m_code 16).length) : m_ck 16 k = true := m_cr_ok m_cr_16_0 (Nat.zero_le k) (Nat.lt_of_lt_of_le hk (by decide +kernel))
theorem m_cr_17_0 : m_cr 17 0 8 = true := by decide +kernel
theorem m_cf_17 (k : Nat) (hk : k < (m_code 17).length) : m_ck 17 k = true := m_cr_ok m_cr_17_0 (Nat.zero_le k) (Nat.lt_of_lt_of_le hk (by decide +kernel))
theorem m_cr_18_0 : m_cr 18 0 7 = true := by decide +kernel
theorem m_cf_18 (k : Nat) (hk : k < (m_code 18).length) : m_ck 18 k = true := m_cr_ok m_cr_18_0 (Nat.zero_le k) (Nat.lt_of_lt_of_le hk (by decide +kernel))
theorem m_cr_19_0 : m_cr 19 0 12 = true := by decide +kernel
theorem m_cf_19 (k : Nat) (hk : k < (m_code 19).length) : m_ck 19 k = true := m_cr_ok m_cr_19_0 (Nat.zero_le k) (Nat.lt_of_lt_of_le hk (by decide +kernel))
theorem m_cr_20_0 : m_cr 20 0 6 = true := by decide +kernel
theorem m_cf_20 (k : Nat) (hk : k < (m_code 20).length) : m_ck 20 k = true := m_cr_ok m_cr_20_0 (Nat.zero_le k) (Nat.lt_of_lt_of_le hk (by decide +kernel))
theorem m_cr_21_0 : m_cr 21 0 21 = true := by decide +kernel
theorem m_cf_21 (k : Nat) (hk : k < (m_code 21).length) : m_ck 21 k = true := m_cr_ok m_cr_21_0 (Nat.zero_le k) (Nat.lt_of_lt_of_le hk (by decide +kernel))
theorem m_cr_22_0 : m_cr 22 0 5 = true := by decide +kernel
theorem m_cf_22 (k : Nat) (hk : k < (m_code 22).length) : m_ck 22 k = true := m_cr_ok m_cr_22_0 (Nat.zero_le k) (Nat.lt_of_lt_of_le hk (by decide +kernel))
theorem m_cr_23_0 : m_cr 23 0 6 = true := by decide +kernel
theorem m_cf_23 (k : Nat) (hk : k < (m_code 23).length) : m_ck 23 k = true := m_cr_ok m_cr_23_0 (Nat.zero_le k) (Nat.lt_of_lt_of_le hk (by decide +kernel))
theorem m_cr_24_0 : m_cr 24 0 8 = true := by decide +kernel
theorem m_cf_24 (k : Nat) (hk : k < (m_code 24).length) : m_ck 24 k = true := m_cr_ok m_cr_24_0 (Nat.zero_le k) (Nat.lt_of_lt_of_le hk (by decide +kernel))
theorem m_cr_25_0 : m_cr 25 0 7 = true := by decide +kernel
theorem m_cf_25 (k : Nat) (hk : k < (m_code 25).length) : m_ck 25 k = true := m_cr_ok m_cr_25_0 (Nat.zero_le k) (Nat.lt_of_lt_of_le hk (by decide +kernel))
theorem m_cr_26_0 : m_cr 26 0 30 = true := by decide +kernel
theorem m_cf_26 (k : Nat) (hk : k < (m_code 26).length) : m_ck 26 k = true := m_cr_ok m_cr_26_0 (Nat.zero_le k) (Nat.lt_of_lt_of_le hk (by decide +kernel))
theorem m_cr_27_0 : m_cr 27 0 27 = true := by decide +kernel
theorem m_cf_27 (k : Nat) (hk : k < (m_code 27).length) : m_ck 27 k = true := m_cr_ok m_cr_27_0 (Nat.zero_le k) (Nat.lt_of_lt_of_le hk (by decide +kernel))
theorem m_cr_28_0 : m_cr 28 0 6 = true := by decide +kernel
theorem m_cf_28 (k : Nat) (hk : k < (m_code 28).length) : m_ck 28 k = true := m_cr_ok m_cr_28_0 (Nat.zero_le k) (Nat.lt_of_lt_of_le hk (by decide +kernel))
theorem m_cr_29_0 : m_cr 29 0 60 = true := by decide +kernel
theorem m_cr_29_60 : m_cr 29 60 13 = true := by decide +kernel
theorem m_cf_29 (k : Nat) (hk : k < (m_code 29).length) : m_ck 29 k = true := by
  have h9 : k < 73 := Nat.lt_of_lt_of_le hk (by decide +kernel)
  by_cases c0 : k < 60
  · exact m_cr_ok m_cr_29_0 (by omega) (by omega)
  exact m_cr_ok m_cr_29_60 (by omega) (by omega)
theorem m_cr_30_0 : m_cr 30 0 38 = true := by decide +kernel
theorem m_cf_30 (k : Nat) (hk : k < (m_code 30).length) : m_ck 30 k = true := m_cr_ok m_cr_30_0 (Nat.zero_le k) (Nat.lt_of_lt_of_le hk (by decide +kernel))
theorem m_cr_31_0 : m_cr 31 0 11 = true := by decide +kernel
theorem m_cf_31 (k : Nat) (hk : k < (m_code 31).length) : m_ck 31 k = true := m_cr_ok m_cr_31_0 (Nat.zero_le k) (Nat.lt_of_lt_of_le hk (by decide +kernel))
theorem m_cr_32_0 : m_cr 32 0 12 = true := by decide +kernel
theorem m_cf_32 (k : Nat) (hk : k < (m_code 32).length) : m_ck 32 k = true := m_cr_ok m_cr_32_0 (Nat.zero_le k) (Nat.lt_of_lt_of_le hk (by decide +kernel))
theorem m_cr_33_0 : m_cr 33 0 32 = true := by decide +kernel
theorem m_cf_33 (k : Nat) (hk : k < (m_code 33).length) : m_ck 33 k = true := m_cr_ok m_cr_33_0 (Nat.zero_le k) (Nat.lt_of_lt_of_le hk (by decide +kernel))
theorem m_cr_34_0 : m_cr 34 0 20 = true := by decide +kernel
theorem m_cf_34 (k : Nat) (hk : k < (m_code 34).length) : m_ck 34 k = true := m_cr_ok m_cr_34_0 (Nat.zero_le k) (Nat.lt_of_lt_of_le hk (by decide +kernel))
theorem m_cr_35_0 : m_cr 35 0 51 = true := by decide +kernel
theorem m_cf_35 (k : Nat) (hk : k < (m_code 35).length) : m_ck 35 k = true := m_cr_ok m_cr_35_0 (Nat.zero_le k) (Nat.lt_of_lt_of_le hk (by decide +kernel))
theorem m_cr_36_0 : m_cr 36 0 35 = true := by decide +kernel
theorem m_cf_36 (k : Nat) (hk : k < (m_code 36).length) : m_ck 36 k = true := m_cr_ok m_cr_36_0 (Nat.zero_le k) (Nat.lt_of_lt_of_le hk (by decide +kernel))
theorem m_cr_37_0 : m_cr 37 0 25 = true := by decide +kernel
theorem m_cf_37 (k : Nat) (hk : k < (m_code 37).length) : m_ck 37 k = true := m_cr_ok m_cr_37_0 (Nat.zero_le k) (Nat.lt_of_lt_of_le hk (by decide +kernel))
theorem m_cr_38_0 : m_cr 38 0 15 = true := by decide +kernel
theorem m_cf_38 (k : Nat) (hk : k < (m_code 38).length) : m_ck 38 k = true := m_cr_ok m_cr_38_0 (Nat.zero_le k) (Nat.lt_of_lt_of_le hk (by decide +kernel))
theorem m_cr_39_0 : m_cr 39 0 60 = true := by decide +kernel
theorem m_cr_39_60 : m_cr 39 60 5 = true := by decide +kernel
theorem m_cf_39 (k : Nat) (hk : k < (m_code 39).length) : m_ck 39 k = true := by
  have h9 : k < 65 := Nat.lt_of_lt_of_le hk (by decide +kernel)
  by_cases c0 : k < 60
  · exact m_cr_ok m_cr_39_0 (by omega) (by omega)
  exact m_cr_ok m_cr_39_60 (by omega) (by omega)
theorem m_cr_40_0 : m_cr 40 0 53 = true := by decide +kernel
theorem m_cf_40 (k : Nat) (hk : k < (m_code 40).length) : m_ck 40 k = true := m_cr_ok m_cr_40_0 (Nat.zero_le k) (Nat.lt_of_lt_of_le hk (by decide +kernel))
theorem m_cr_41_0 : m_cr 41 0 12 = true := by decide +kernel
theorem m_cf_41 (k : Nat) (hk : k < (m_code 41).length) : m_ck 41 k = true := m_cr_ok m_cr_41_0 (Nat.zero_le k) (Nat.lt_of_lt_of_le hk (by decide +kernel))
theorem m_cr_42_0 : m_cr 42 0 14 = true := by decide +kernel
theorem m_cf_42 (k : Nat) (hk : k < (m_code 42).length) : m_ck 42 k = true := m_cr_ok m_cr_42_0 (Nat.zero_le k) (Nat.lt_of_lt_of_le hk (by decide +kernel))
theorem m_cr_43_0 : m_cr 43 0 13 = true := by decide +kernel
theorem m_cf_43 (k : Nat) (hk : k < (m_code 43).length) : m_ck 43 k = true := m_cr_ok m_cr_43_0 (Nat.zero_le k) (Nat.lt_of_lt_of_le hk (by decide +kernel))
theorem m_cr_44_0 : m_cr 44 0 9 = true := by decide +kernel
theorem m_cf_44 (k : Nat) (hk : k < (m_code 44).length) : m_ck 44 k = true := m_cr_ok m_cr_44_0 (Nat.zero_le k) (Nat.lt_of_lt_of_le hk (by decide +kernel))
theorem m_cr_45_0 : m_cr 45 0 15 = true := by decide +kernel
theorem m_cf_45 (k : Nat) (hk : k < (m_code 45).length) : m_ck 45 k = true := m_cr_ok m_cr_45_0 (Nat.zero_le k) (Nat.lt_of_lt_of_le hk (by decide +kernel))
theorem m_cr_46_0 : m_cr 46 0 35 = true := by decide +kernel
theorem m_cf_46 (k : Nat) (hk : k < (m_code 46).length) : m_ck 46 k = true := m_cr_ok m_cr_46_0 (Nat.zero_le k) (Nat.lt_of_lt_of_le hk (by decide +kernel))
theorem m_cr_47_0 : m_cr 47 0 13 = true := by decide +kernel
theorem m_cf_47 (k : Nat) (hk : k < (m_code 47).length) : m_ck 47 k = true := m_cr_ok m_cr_47_0 (Nat.zero_le k) (Nat.lt_of_lt_of_le hk (by decide +kernel))
theorem m_cr_48_0 : m_cr 48 0 3 = true := by decide +kernel
theorem m_cf_48 (k : Nat) (hk : k < (m_code 48).length) : m_ck 48 k = true := m_cr_ok m_cr_48_0 (Nat.zero_le k) (Nat.lt_of_lt_of_le hk (by decide +kernel))
theorem m_cr_49_0 : m_cr 49 0 3 = true := by decide +kernel
theorem m_cf_49 (k : Nat) (hk : k < (m_code 49).length) : m_ck 49 k = true := m_cr_ok m_cr_49_0 (Nat.zero_le k) (Nat.lt_of_lt_of_le hk (by decide +kernel))
theorem m_cr_50_0 : m_cr 50 0 3 = true := by decide +kernel
theorem m_cf_50 (k : Nat) (hk : k < (m_code 50).length) : m_ck 50 k = true := m_cr_ok m_cr_50_0 (Nat.zero_le k) (Nat.lt_of_lt_of_le hk (by decide +kernel))
theorem m_cr_51_0 : m_cr 51 0 16 = true := by decide +kernel
theorem m_cf_51 (k : Nat) (hk : k < (m_code 51).length) : m_ck 51 k = true := m_cr_ok m_cr_51_0 (Nat.zero_le k) (Nat.lt_of_lt_of_le hk (by decide +kernel))
theorem m_cr_52_0 : m_cr 52 0 16 = true := by decide +kernel
theorem m_cf_52 (k : Nat) (hk : k < (m_code 52).length) : m_ck 52 k = true := m_cr_ok m_cr_52_0 (Nat.zero_le k) (Nat.lt_of_lt_of_le hk (by decide +kernel))
theorem m_cr_53_0 : m_cr 53 0 39 = true := by decide +kernel
theorem m_cf_53 (k : Nat) (hk : k < (m_code 53).length) : m_ck 53 k = true := m_cr_ok m_cr_53_0 (Nat.zero_le k) (Nat.lt_of_lt_of_le hk (by decide +kernel))
theorem m_cr_54_0 : m_cr 54 0 42 = true := by decide +kernel
theorem m_cf_54 (k : Nat) (hk : k < (m_code 54).length) : m_ck 54 k = true := m_cr_ok m_cr_54_0 (Nat.zero_le k) (Nat.lt_of_lt_of_le hk (by decide +kernel))
theorem m_cr_55_0 : m_cr 55 0 23 = true := by decide +kernel
theorem m_cf_55 (k : Nat) (hk : k < (m_code 55).length) : m_ck 55 k = true := m_cr_ok m_cr_55_0 (Nat.zero_le k) (Nat.lt_of_lt_of_le hk (by decide +kernel))
theorem m_cr_56_0 : m_cr 56 0 60 = true := by decide +kernel
theorem m_cr_56_60 : m_cr 56 60 5 = true := by decide +kernel
theorem m_cf_56 (k : Nat) (hk : k < (m_code 56).length) : m_ck 56 k = true := by
  have h9 : k < 65 := Nat.lt_of_lt_of_le hk (by decide +kernel)
  by_cases c0 : k < 60
  · exact m_cr_ok m_cr_56_0 (by omega) (by omega)
  exact m_cr_ok m_cr_56_60 (by omega) (by omega)
theorem m_cr_57_0 : m_cr 57 0 56 = true := by decide +kernel
theorem m_cf_57 (k : Nat) (hk : k < (m_code 57).length) : m_ck 57 k = true := m_cr_ok m_cr_57_0 (Nat.zero_le k) (Nat.lt_of_lt_of_le hk (by decide +kernel))
theorem m_cr_58_0 : m_cr 58 0 16 = true := by decide +kernel
theorem m_cf_58 (k : Nat) (hk : k < (m_code 58).length) : m_ck 58 k = true := m_cr_ok m_cr_58_0 (Nat.zero_le k) (Nat.lt_of_lt_of_le hk (by decide +kernel))
theorem m_cr_59_0 : m_cr 59 0 12 = true := by decide +kernel
theorem m_cf_59 (k : Nat) (hk : k < (m_code 59).length) : m_ck 59 k = true := m_cr_ok m_cr_59_0 (Nat.zero_le k) (Nat.lt_of_lt_of_le hk (by decide +kernel))
theorem m_cr_60_0 : m_cr 60 0 27 = true := by decide +kernel
theorem m_cf_60 (k : Nat) (hk : k < (m_code 60).length) : m_ck 60 k = true := m_cr_ok m_cr_60_0 (Nat.zero_le k) (Nat.lt_of_lt_of_le hk (by decide +kernel))
theorem m_cr_61_0 : m_cr 61 0 41 = true := by decide +kernel
theorem m_cf_61 (k : Nat) (hk : k < (m_code 61).length) : m_ck 61 k = true := m_cr_ok m_cr_61_0 (Nat.zero_le k) (Nat.lt_of_lt_of_le hk (by decide +kernel))
theorem m_cr_62_0 : m_cr 62 0 41 = true := by decide +kernel
theorem m_cf_62 (k : Nat) (hk : k < (m_code 62).length) : m_ck 62 k = true := m_cr_ok m_cr_62_0 (Nat.zero_le k) (Nat.lt_of_lt_of_le hk (by decide +kernel))
theorem m_cr_63_0 : m_cr 63 0 33 = true := by decide +kernel
theorem m_cf_63 (k : Nat) (hk : k < (m_code 63).length) : m_ck 63 k = true := m_cr_ok m_cr_63_0 (Nat.zero_le k) (Nat.lt_of_lt_of_le hk (by decide +kernel))
theorem m_cr_64_0 : m_cr 64 0 30 = true := by decide +kernel
theorem m_cf_64 (k : Nat) (hk : k < (m_code 64).length) : m_ck 64 k = true := m_cr_ok m_cr_64_0 (Nat.zero_le k) (Nat.lt_of_lt_of_le hk (by decide +kernel))
theorem m_cr_65_0 : m_cr 65 0 7 = true := by decide +kernel
theorem m_cf_65 (k : Nat) (hk : k < (m_code 65).length) : m_ck 65 k = true := m_cr_ok m_cr_65_0 (Nat.zero_le k) (Nat.lt_of_lt_of_le hk (by decide +kernel))
theorem m_cr_66_0 : m_cr 66 0 25 = true := by decide +kernel
theorem m_cf_66 (k : Nat) (hk : k < (m_code 66).length) : m_ck 66 k = true := m_cr_ok m_cr_66_0 (Nat.zero_le k) (Nat.lt_of_lt_of_le hk (by decide +kernel))
theorem m_cr_67_0 : m_cr 67 0 7 = true := by decide +kernel
theorem m_cf_67 (k : Nat) (hk : k < (m_code 67).length) : m_ck 67 k = true := m_cr_ok m_cr_67_0 (Nat.zero_le k) (Nat.lt_of_lt_of_le hk (by decide +kernel))
theorem m_cr_68_0 : m_cr 68 0 9 = true := by decide +kernel
theorem m_cf_68 (k : Nat) (hk : k < (m_code 68).length) : m_ck 68 k = true := m_cr_ok m_cr_68_0 (Nat.zero_le k) (Nat.lt_of_lt_of_le hk (by decide +kernel))
theorem m_cr_69_0 : m_cr 69 0 3 = true := by decide +kernel
theorem m_cf_69 (k : Nat) (hk : k < (m_code 69).length) : m_ck 69 k = true := m_cr_ok m_cr_69_0 (Nat.zero_le k) (Nat.lt_of_lt_of_le hk (by decide +kernel))
theorem m_cr_70_0 : m_cr 70 0 14 = true := by decide +kernel
theorem m_cf_70 (k : Nat) (hk : k < (m_code 70).length) : m_ck 70 k = true := m_cr_ok m_cr_70_0 (Nat.zero_le k) (Nat.lt_of_lt_of_le hk (by decide +kernel))
theorem m_cr_71_0 : m_cr 71 0 5 = true := by decide +kernel
theorem m_cf_71 (k : Nat) (hk : k < (m_code 71).length) : m_ck 71 k = true := m_cr_ok m_cr_71_0 (Nat.zero_le k) (Nat.lt_of_lt_of_le hk (by decide +kernel))
theorem m_cr_72_0 : m_cr 72 0 28 = true := by decide +kernel
theorem m_cf_72 (k : Nat) (hk : k < (m_code 72).length) : m_ck 72 k = true := m_cr_ok m_cr_72_0 (Nat.zero_le k) (Nat.lt_of_lt_of_le hk (by decide +kernel))
theorem m_cr_73_0 : m_cr 73 0 9 = true := by decide +kernel
theorem m_cf_73 (k : Nat) (hk : k < (m_code 73).length) : m_ck 73 k = true := m_cr_ok m_cr_73_0 (Nat.zero_le k) (Nat.lt_of_lt_of_le hk (by decide +kernel))
theorem m_cr_74_0 : m_cr 74 0 47 = true := by decide +kernel
theorem m_cf_74 (k : Nat) (hk : k < (m_code 74).length) : m_ck 74 k = true := m_cr_ok m_cr_74_0 (Nat.zero_le k) (Nat.lt_of_lt_of_le hk (by decide +kernel))
theorem m_cr_75_0 : m_cr 75 0 33 = true := by decide +kernel
theorem m_cf_75 (k : Nat) (hk : k < (m_code 75).length) : m_ck 75 k = true := m_cr_ok m_cr_75_0 (Nat.zero_le k) (Nat.lt_of_lt_of_le hk (by decide +kernel))
theorem m_cr_76_0 : m_cr 76 0 23 = true := by decide +kernel
theorem m_cf_76 (k : Nat) (hk : k < (m_code 76).length) : m_ck 76 k = true := m_cr_ok m_cr_76_0 (Nat.zero_le k) (Nat.lt_of_lt_of_le hk (by decide +kernel))
theorem m_cr_77_0 : m_cr 77 0 59 = true := by decide +kernel
theorem m_cf_77 (k : Nat) (hk : k < (m_code 77).length) : m_ck 77 k = true := m_cr_ok m_cr_77_0 (Nat.zero_le k) (Nat.lt_of_lt_of_le hk (by decide +kernel))
theorem m_cr_78_0 : m_cr 78 0 28 = true := by decide +kernel
theorem m_cf_78 (k : Nat) (hk : k < (m_code 78).length) : m_ck 78 k = true := m_cr_ok m_cr_78_0 (Nat.zero_le k) (Nat.lt_of_lt_of_le hk (by decide +kernel))
theorem m_cr_79_0 : m_cr 79 0 19 = true := by decide +kernel
theorem m_cf_79 (k : Nat) (hk : k < (m_code 79).length) : m_ck 79 k = true := m_cr_ok m_cr_79_0 (Nat.zero_le k) (Nat.lt_of_lt_of_le hk (by decide +kernel))
theorem m_cr_80_0 : m_cr 80 0 38 = true := by decide +kernel
theorem m_cf_80 (k : Nat) (hk : k < (m_code 80).length) : m_ck 80 k = true := m_cr_ok m_cr_80_0 (Nat.zero_le k) (Nat.lt_of_lt_of_le hk (by decide +kernel))
theorem m_cr_81_0 : m_cr 81 0 19 = true := by decide +kernel
theorem m_cf_81 (k : Nat) (hk : k < (m_code 81).length) : m_ck 81 k = true := m_cr_ok m_cr_81_0 (Nat.zero_le k) (Nat.lt_of_lt_of_le hk (by decide +kernel))
theorem m_cr_82_0 : m_cr 82 0 29 = true := by decide +kernel
theorem m_cf_82 (k : Nat) (hk : k < (m_code 82).length) : m_ck 82 k = true := m_cr_ok m_cr_82_0 (Nat.zero_le k) (Nat.lt_of_lt_of_le hk (by decide +kernel))
theorem m_cr_83_0 : m_cr 83 0 33 = true := by decide +kernel
theorem m_cf_83 (k : Nat) (hk : k < (m_code 83).length) : m_ck 83 k = true := m_cr_ok m_cr_83_0 (Nat.zero_le k) (Nat.lt_of_lt_of_le hk (by decide +kernel))
theorem m_cr_84_0 : m_cr 84 0 24 = true := by decide +kernel
theorem m_cf_84 (k : Nat) (hk : k < (m_code 84).length) : m_ck 84 k = true := m_cr_ok m_cr_84_0 (Nat.zero_le k) (Nat.lt_of_lt_of_le hk (by decide +kernel))
theorem m_cr_85_0 : m_cr 85 0 39 = true := by decide +kernel
theorem m_cf_85 (k : Nat) (hk : k < (m_code 85).length) : m_ck 85 k = true := m_cr_ok m_cr_85_0 (Nat.zero_le k) (Nat.lt_of_lt_of_le hk (by decide +kernel))
theorem m_cr_86_0 : m_cr 86 0 34 = true := by decide +kernel
theorem m_cf_86 (k : Nat) (hk : k < (m_code 86).length) : m_ck 86 k = true := m_cr_ok m_cr_86_0 (Nat.zero_le k) (Nat.lt_of_lt_of_le hk (by decide +kernel))
theorem m_cr_87_0 : m_cr 87 0 60 = true := by decide +kernel
theorem m_cf_87 (k : Nat) (hk : k < (m_code 87).length) : m_ck 87 k = true := m_cr_ok m_cr_87_0 (Nat.zero_le k) (Nat.lt_of_lt_of_le hk (by decide +kernel))
theorem m_cr_88_0 : m_cr 88 0 60 = true := by decide +kernel
theorem m_cr_88_60 : m_cr 88 60 14 = true := by decide +kernel
theorem m_cf_88 (k : Nat) (hk : k < (m_code 88).length) : m_ck 88 k = true := by
  have h9 : k < 74 := Nat.lt_of_lt_of_le hk (by decide +kernel)
  by_cases c0 : k < 60
  · exact m_cr_ok m_cr_88_0 (by omega) (by omega)
  exact m_cr_ok m_cr_88_60 (by omega) (by omega)
theorem m_cr_89_0 : m_cr 89 0 6 = true := by decide +kernel
theorem m_cf_89 (k : Nat) (hk : k < (m_code 89).length) : m_ck 89 k = true := m_cr_ok m_cr_89_0 (Nat.zero_le k) (Nat.lt_of_lt_of_le hk (by decide +kernel))
theorem m_cr_90_0 : m_cr 90 0 6 = true := by decide +kernel
theorem m_cf_90 (k : Nat) (hk : k < (m_code 90).length) : m_ck 90 k = true := m_cr_ok m_cr_90_0 (Nat.zero_le k) (Nat.lt_of_lt_of_le hk (by decide +kernel))
theorem m_cr_91_0 : m_cr 91 0 4 = true := by decide +kernel
theorem m_cf_91 (k : Nat) (hk : k < (m_code 91).length) : m_ck 91 k = true := m_cr_ok m_cr_91_0 (Nat.zero_le k) (Nat.lt_of_lt_of_le hk (by decide +kernel))
theorem m_cr_92_0 : m_cr 92 0 12 = true := by decide +kernel
theorem m_cf_92 (k : Nat) (hk : k < (m_code 92).length) : m_ck 92 k = true := m_cr_ok m_cr_92_0 (Nat.zero_le k) (Nat.lt_of_lt_of_le hk (by decide +kernel))
theorem m_cr_93_0 : m_cr 93 0 22 = true := by decide +kernel
theorem m_cf_93 (k : Nat) (hk : k < (m_code 93).length) : m_ck 93 k = true := m_cr_ok m_cr_93_0 (Nat.zero_le k) (Nat.lt_of_lt_of_le hk (by decide +kernel))
theorem m_cr_94_0 : m_cr 94 0 5 = true := by decide +kernel
theorem m_cf_94 (k : Nat) (hk : k < (m_code 94).length) : m_ck 94 k = true := m_cr_ok m_cr_94_0 (Nat.zero_le k) (Nat.lt_of_lt_of_le hk (by decide +kernel))
theorem m_cr_95_0 : m_cr 95 0 5 = true := by decide +kernel
theorem m_cf_95 (k : Nat) (hk : k < (m_code 95).length) : m_ck 95 k = true := m_cr_ok m_cr_95_0 (Nat.zero_le k) (Nat.lt_of_lt_of_le hk (by decide +kernel))
theorem m_cr_96_0 : m_cr 96 0 5 = true := by decide +kernel
theorem m_cf_96 (k : Nat) (hk : k < (m_code 96).length) : m_ck 96 k = true := m_cr_ok m_cr_96_0 (Nat.zero_le k) (Nat.lt_of_lt_of_le hk (by decide +kernel))
theorem m_cr_97_0 : m_cr 97 0 60 = true := by decide +kernel
theorem m_cf_97 (k : Nat) (hk : k < (m_code 97).length) : m_ck 97 k = true := m_cr_ok m_cr_97_0 (Nat.zero_le k) (Nat.lt_of_lt_of_le hk (by decide +kernel))
theorem m_cr_98_0 : m_cr 98 0 34 = true := by decide +kernel
theorem m_cf_98 (k : Nat) (hk : k < (m_code 98).length) : m_ck 98 k = true := m_cr_ok m_cr_98_0 (Nat.zero_le k) (Nat.lt_of_lt_of_le hk (by decide +kernel))
theorem m_cr_99_0 : m_cr 99 0 51 = true := by decide +kernel
theorem m_cf_99 (k : Nat) (hk : k < (m_code 99).length) : m_ck 99 k = true := m_cr_ok m_cr_99_0 (Nat.zero_le k) (Nat.lt_of_lt_of_le hk (by decide +kernel))
theorem m_cr_100_0 : m_cr 100 0 37 = true := by decide +kernel
theorem m_cf_100 (k : Nat) (hk : k < (m_code 100).length) : m_ck 100 k = true := m_cr_ok m_cr_100_0 (Nat.zero_le k) (Nat.lt_of_lt_of_le hk (by decide +kernel))
theorem m_cr_101_0 : m_cr 101 0 16 = true := by decide +kernel
theorem m_cf_101 (k : Nat) (hk : k < (m_code 101).length) : m_ck 101 k = true := m_cr_ok m_cr_101_0 (Nat.zero_le k) (Nat.lt_of_lt_of_le hk (by decide +kernel))
theorem m_cr_102_0 : m_cr 102 0 35 = true := by decide +kernel
theorem m_cf_102 (k : Nat) (hk : k < (m_code 102).length) : m_ck 102 k = true := m_cr_ok m_cr_102_0 (Nat.zero_le k) (Nat.lt_of_lt_of_le hk (by decide +kernel))
theorem m_cr_103_0 : m_cr 103 0 14 = true := by decide +kernel
theorem m_cf_103 (k : Nat) (hk : k < (m_code 103).length) : m_ck 103 k = true := m_cr_ok m_cr_103_0 (Nat.zero_le k) (Nat.lt_of_lt_of_le hk (by decide +kernel))
theorem m_cr_104_0 : m_cr 104 0 21 = true := by decide +kernel
theorem m_cf_104 (k : Nat) (hk : k < (m_code 104).length) : m_ck 104 k = true := m_cr_ok m_cr_104_0 (Nat.zero_le k) (Nat.lt_of_lt_of_le hk (by decide +kernel))
theorem m_cr_105_0 : m_cr 105 0 8 = true := by decide +kernel
theorem m_cf_105 (k : Nat) (hk : k < (m_code 105).length) : m_ck 105 k = true := m_cr_ok m_cr_105_0 (Nat.zero_le k) (Nat.lt_of_lt_of_le hk (by decide +kernel))
theorem m_cr_106_0 : m_cr 106 0 11 = true := by decide +kernel
theorem m_cf_106 (k : Nat) (hk : k < (m_code 106).length) : m_ck 106 k = true := m_cr_ok m_cr_106_0 (Nat.zero_le k) (Nat.lt_of_lt_of_le hk (by decide +kernel))
theorem m_cr_107_0 : m_cr 107 0 9 = true := by decide +kernel
theorem m_cf_107 (k : Nat) (hk : k < (m_code 107).length) : m_ck 107 k = true := m_cr_ok m_cr_107_0 (Nat.zero_le k) (Nat.lt_of_lt_of_le hk (by decide +kernel))
theorem m_cr_108_0 : m_cr 108 0 9 = true := by decide +kernel
theorem m_cf_108 (k : Nat) (hk : k < (m_code 108).length) : m_ck 108 k = true := m_cr_ok m_cr_108_0 (Nat.zero_le k) (Nat.lt_of_lt_of_le hk (by decide +kernel))
theorem m_cr_109_0 : m_cr 109 0 9 = true := by decide +kernel
theorem m_cf_109 (k : Nat) (hk : k < (m_code 109).length) : m_ck 109 k = true := m_cr_ok m_cr_109_0 (Nat.zero_le k) (Nat.lt_of_lt_of_le hk (by decide +kernel))
theorem m_cr_110_0 : m_cr 110 0 10 = true := by decide +kernel
theorem m_cf_110 (k : Nat) (hk : k < (m_code 110).length) : m_ck 110 k = true := m_cr_ok m_cr_110_0 (Nat.zero_le k) (Nat.lt_of_lt_of_le hk (by decide +kernel))
theorem m_cr_111_0 : m_cr 111 0 16 = true := by decide +kernel
theorem m_cf_111 (k : Nat) (hk : k < (m_code 111).length) : m_ck 111 k = true := m_cr_ok m_cr_111_0 (Nat.zero_le k) (Nat.lt_of_lt_of_le hk (by decide +kernel))
theorem m_cr_112_0 : m_cr 112 0 19 = true := by decide +kernel
theorem m_cf_112 (k : Nat) (hk : k < (m_code 112).length) : m_ck 112 k = true := m_cr_ok m_cr_112_0 (Nat.zero_le k) (Nat.lt_of_lt_of_le hk (by decide +kernel))
theorem m_cr_113_0 : m_cr 113 0 29 = true := by decide +kernel
theorem m_cf_113 (k : Nat) (hk : k < (m_code 113).length) : m_ck 113 k = true := m_cr_ok m_cr_113_0 (Nat.zero_le k) (Nat.lt_of_lt_of_le hk (by decide +kernel))
theorem m_cr_114_0 : m_cr 114 0 52 = true := by decide +kernel
theorem m_cf_114 (k : Nat) (hk : k < (m_code 114).length) : m_ck 114 k = true := m_cr_ok m_cr_114_0 (Nat.zero_le k) (Nat.lt_of_lt_of_le hk (by decide +kernel))
theorem m_cr_115_0 : m_cr 115 0 25 = true := by decide +kernel
theorem m_cf_115 (k : Nat) (hk : k < (m_code 115).length) : m_ck 115 k = true := m_cr_ok m_cr_115_0 (Nat.zero_le k) (Nat.lt_of_lt_of_le hk (by decide +kernel))
theorem m_cr_116_0 : m_cr 116 0 48 = true := by decide +kernel
theorem m_cf_116 (k : Nat) (hk : k < (m_code 116).length) : m_ck 116 k = true := m_cr_ok m_cr_116_0 (Nat.zero_le k) (Nat.lt_of_lt_of_le hk (by decide +kernel))
theorem m_cr_117_0 : m_cr 117 0 58 = true := by decide +kernel
theorem m_cf_117 (k : Nat) (hk : k < (m_code 117).length) : m_ck 117 k = true := m_cr_ok m_cr_117_0 (Nat.zero_le k) (Nat.lt_of_lt_of_le hk (by decide +kernel))
theorem m_cr_118_0 : m_cr 118 0 8 = true := by decide +kernel
theorem m_cf_118 (k : Nat) (hk : k < (m_code 118).length) : m_ck 118 k = true := m_cr_ok m_cr_118_0 (Nat.zero_le k) (Nat.lt_of_lt_of_le hk (by decide +kernel))
theorem m_cr_119_0 : m_cr 119 0 10 = true := by decide +kernel
theorem m_cf_119 (k : Nat) (hk : k < (m_code 119).length) : m_ck 119 k = true := m_cr_ok m_cr_119_0 (Nat.zero_le k) (Nat.lt_of_lt_of_le hk (by decide +kernel))
theorem m_cr_120_0 : m_cr 120 0 12 = true := by decide +kernel
theorem m_cf_120 (k : Nat) (hk : k < (m_code 120).length) : m_ck 120 k = true := m_cr_ok m_cr_120_0 (Nat.zero_le k) (Nat.lt_of_lt_of_le hk (by decide +kernel))
theorem m_cr_121_0 : m_cr 121 0 5 = true := by decide +kernel
theorem m_cf_121 (k : Nat) (hk : k < (m_code 121).length) : m_ck 121 k = true := m_cr_ok m_cr_121_0 (Nat.zero_le k) (Nat.lt_of_lt_of_le hk (by decide +kernel))
theorem m_cr_122_0 : m_cr 122 0 11 = true := by decide +kernel
theorem m_cf_122 (k : Nat) (hk : k < (m_code 122).length) : m_ck 122 k = true := m_cr_ok m_cr_122_0 (Nat.zero_le k) (Nat.lt_of_lt_of_le hk (by decide +kernel))
theorem m_cr_123_0 : m_cr 123 0 12 = true := by decide +kernel
theorem m_cf_123 (k : Nat) (hk : k < (m_code 123).length) : m_ck 123 k = true := m_cr_ok m_cr_123_0 (Nat.zero_le k) (Nat.lt_of_lt_of_le hk (by decide +kernel))
theorem m_cr_124_0 : m_cr 124 0 10 = true := by decide +kernel
theorem m_cf_124 (k : Nat) (hk : k < (m_code 124).length) : m_ck 124 k = true := m_cr_ok m_cr_124_0 (Nat.zero_le k) (Nat.lt_of_lt_of_le hk (by decide +kernel))
theorem m_cr_125_0 : m_cr 125 0 12 = true := by decide +kernel
theorem m_cf_125 (k : Nat) (hk : k < (m_code 125).length) : m_ck 125 k = true := m_cr_ok m_cr_125_0 (Nat.zero_le k) (Nat.lt_of_lt_of_le hk (by decide +kernel))
theorem m_cr_126_0 : m_cr 126 0 54 = true := by decide +kernel
theorem m_cf_126 (k : Nat) (hk : k < (m_code 126).length) : m_ck 126 k = true := m_cr_ok m_cr_126_0 (Nat.zero_le k) (Nat.lt_of_lt_of_le hk (by decide +kernel))
theorem m_cr_127_0 : m_cr 127 0 36 = true := by decide +kernel
theorem m_cf_127 (k : Nat) (hk : k < (m_code 127).length) : m_ck 127 k = true := m_cr_ok m_cr_127_0 (Nat.zero_le k) (Nat.lt_of_lt_of_le hk (by decide +kernel))
theorem m_cr_128_0 : m_cr 128 0 60 = true := by decide +kernel
theorem m_cr_128_60 : m_cr 128 60 18 = true := by decide +kernel
theorem m_cf_128 (k : Nat) (hk : k < (m_code 128).length) : m_ck 128 k = true := by
  have h9 : k < 78 := Nat.lt_of_lt_of_le hk (by decide +kernel)
  by_cases c0 : k < 60
  · exact m_cr_ok m_cr_128_0 (by omega) (by omega)
  exact m_cr_ok m_cr_128_60 (by omega) (by omega)
theorem m_cr_129_0 : m_cr 129 0 35 = true := by decide +kernel
theorem m_cf_129 (k : Nat) (hk : k < (m_code 129).length) : m_ck 129 k = true := m_cr_ok m_cr_129_0 (Nat.zero_le k) (Nat.lt_of_lt_of_le hk (by decide +kernel))
theorem m_cr_130_0 : m_cr 130 0 41 = true := by decide +kernel
theorem m_cf_130 (k : Nat) (hk : k < (m_code 130).length) : m_ck 130 k = true := m_cr_ok m_cr_130_0 (Nat.zero_le k) (Nat.lt_of_lt_of_le hk (by decide +kernel))
theorem m_cr_131_0 : m_cr 131 0 60 = true := by decide +kernel
theorem m_cr_131_60 : m_cr 131 60 17 = true := by decide +kernel
theorem m_cf_131 (k : Nat) (hk : k < (m_code 131).length) : m_ck 131 k = true := by
  have h9 : k < 77 := Nat.lt_of_lt_of_le hk (by decide +kernel)
  by_cases c0 : k < 60
  · exact m_cr_ok m_cr_131_0 (by omega) (by omega)
  exact m_cr_ok m_cr_131_60 (by omega) (by omega)
theorem m_cr_132_0 : m_cr 132 0 14 = true := by decide +kernel
theorem m_cf_132 (k : Nat) (hk : k < (m_code 132).length) : m_ck 132 k = true := m_cr_ok m_cr_132_0 (Nat.zero_le k) (Nat.lt_of_lt_of_le hk (by decide +kernel))
theorem m_cr_133_0 : m_cr 133 0 27 = true := by decide +kernel
theorem m_cf_133 (k : Nat) (hk : k < (m_code 133).length) : m_ck 133 k = true := m_cr_ok m_cr_133_0 (Nat.zero_le k) (Nat.lt_of_lt_of_le hk (by decide +kernel))
theorem m_cr_134_0 : m_cr 134 0 19 = true := by decide +kernel
theorem m_cf_134 (k : Nat) (hk : k < (m_code 134).length) : m_ck 134 k = true := m_cr_ok m_cr_134_0 (Nat.zero_le k) (Nat.lt_of_lt_of_le hk (by decide +kernel))
theorem m_cr_135_0 : m_cr 135 0 38 = true := by decide +kernel
theorem m_cf_135 (k : Nat) (hk : k < (m_code 135).length) : m_ck 135 k = true := m_cr_ok m_cr_135_0 (Nat.zero_le k) (Nat.lt_of_lt_of_le hk (by decide +kernel))
theorem m_cr_136_0 : m_cr 136 0 28 = true := by decide +kernel
theorem m_cf_136 (k : Nat) (hk : k < (m_code 136).length) : m_ck 136 k = true := m_cr_ok m_cr_136_0 (Nat.zero_le k) (Nat.lt_of_lt_of_le hk (by decide +kernel))
theorem m_cr_137_0 : m_cr 137 0 30 = true := by decide +kernel
theorem m_cf_137 (k : Nat) (hk : k < (m_code 137).length) : m_ck 137 k = true := m_cr_ok m_cr_137_0 (Nat.zero_le k) (Nat.lt_of_lt_of_le hk (by decide +kernel))
theorem m_cr_138_0 : m_cr 138 0 31 = true := by decide +kernel
theorem m_cf_138 (k : Nat) (hk : k < (m_code 138).length) : m_ck 138 k = true := m_cr_ok m_cr_138_0 (Nat.zero_le k) (Nat.lt_of_lt_of_le hk (by decide +kernel))
theorem m_cr_139_0 : m_cr 139 0 23 = true := by decide +kernel
theorem m_cf_139 (k : Nat) (hk : k < (m_code 139).length) : m_ck 139 k = true := m_cr_ok m_cr_139_0 (Nat.zero_le k) (Nat.lt_of_lt_of_le hk (by decide +kernel))
theorem m_cr_140_0 : m_cr 140 0 5 = true := by decide +kernel
theorem m_cf_140 (k : Nat) (hk : k < (m_code 140).length) : m_ck 140 k = true := m_cr_ok m_cr_140_0 (Nat.zero_le k) (Nat.lt_of_lt_of_le hk (by decide +kernel))
theorem m_cr_141_0 : m_cr 141 0 60 = true := by decide +kernel
theorem m_cr_141_60 : m_cr 141 60 6 = true := by decide +kernel
theorem m_cf_141 (k : Nat) (hk : k < (m_code 141).length) : m_ck 141 k = true := by
  have h9 : k < 66 := Nat.lt_of_lt_of_le hk (by decide +kernel)
  by_cases c0 : k < 60
  · exact m_cr_ok m_cr_141_0 (by omega) (by omega)
  exact m_cr_ok m_cr_141_60 (by omega) (by omega)
theorem m_cr_142_0 : m_cr 142 0 57 = true := by decide +kernel
theorem m_cf_142 (k : Nat) (hk : k < (m_code 142).length) : m_ck 142 k = true := m_cr_ok m_cr_142_0 (Nat.zero_le k) (Nat.lt_of_lt_of_le hk (by decide +kernel))
theorem m_cr_143_0 : m_cr 143 0 22 = true := by decide +kernel
theorem m_cf_143 (k : Nat) (hk : k < (m_code 143).length) : m_ck 143 k = true := m_cr_ok m_cr_143_0 (Nat.zero_le k) (Nat.lt_of_lt_of_le hk (by decide +kernel))
theorem m_cr_144_0 : m_cr 144 0 60 = true := by decide +kernel
theorem m_cr_144_60 : m_cr 144 60 37 = true := by decide +kernel
theorem m_cf_144 (k : Nat) (hk : k < (m_code 144).length) : m_ck 144 k = true := by
  have h9 : k < 97 := Nat.lt_of_lt_of_le hk (by decide +kernel)
  by_cases c0 : k < 60
  · exact m_cr_ok m_cr_144_0 (by omega) (by omega)
  exact m_cr_ok m_cr_144_60 (by omega) (by omega)
theorem m_cr_145_0 : m_cr 145 0 60 = true := by decide +kernel
theorem m_cr_145_60 : m_cr 145 60 33 = true := by decide +kernel
theorem m_cf_145 (k : Nat) (hk : k < (m_code 145).length) : m_ck 145 k = true := by
  have h9 : k < 93 := Nat.lt_of_lt_of_le hk (by decide +kernel)
  by_cases c0 : k < 60
  · exact m_cr_ok m_cr_145_0 (by omega) (by omega)
  exact m_cr_ok m_cr_145_60 (by omega) (by omega)
theorem m_cr_146_0 : m_cr 146 0 28 = true := by decide +kernel
theorem m_cf_146 (k : Nat) (hk : k < (m_code 146).length) : m_ck 146 k = true := m_cr_ok m_cr_146_0 (Nat.zero_le k) (Nat.lt_of_lt_of_le hk (by decide +kernel))
theorem m_cr_147_0 : m_cr 147 0 6 = true := by decide +kernel
theorem m_cf_147 (k : Nat) (hk : k < (m_code 147).length) : m_ck 147 k = true := m_cr_ok m_cr_147_0 (Nat.zero_le k) (Nat.lt_of_lt_of_le hk (by decide +kernel))
theorem m_cr_148_0 : m_cr 148 0 6 = true := by decide +kernel
theorem m_cf_148 (k : Nat) (hk : k < (m_code 148).length) : m_ck 148 k = true := m_cr_ok m_cr_148_0 (Nat.zero_le k) (Nat.lt_of_lt_of_le hk (by decide +kernel))
theorem m_cr_149_0 : m_cr 149 0 56 = true := by decide +kernel
theorem m_cf_149 (k : Nat) (hk : k < (m_code 149).length) : m_ck 149 k = true := m_cr_ok m_cr_149_0 (Nat.zero_le k) (Nat.lt_of_lt_of_le hk (by decide +kernel))
theorem m_cr_150_0 : m_cr 150 0 60 = true := by decide +kernel
theorem m_cr_150_60 : m_cr 150 60 60 = true := by decide +kernel
theorem m_cr_150_120 : m_cr 150 120 44 = true := by decide +kernel
theorem m_cf_150 (k : Nat) (hk : k < (m_code 150).length) : m_ck 150 k = true := by
  have h9 : k < 164 := Nat.lt_of_lt_of_le hk (by decide +kernel)
  by_cases c0 : k < 60
  · exact m_cr_ok m_cr_150_0 (by omega) (by omega)
  by_cases c60 : k < 120
  · exact m_cr_ok m_cr_150_60 (by omega) (by omega)
  exact m_cr_ok m_cr_150_120 (by omega) (by omega)
theorem m_cr_151_0 : m_cr 151 0 60 = true := by decide +kernel
theorem m_cr_151_60 : m_cr 151 60 14 = true := by decide +kernel
theorem m_cf_151 (k : Nat) (hk : k < (m_code 151).length) : m_ck 151 k = true := by
  have h9 : k < 74 := Nat.lt_of_lt_of_le hk (by decide +kernel)
  by_cases c0 : k < 60
  · exact m_cr_ok m_cr_151_0 (by omega) (by omega)
  exact m_cr_ok m_cr_151_60 (by omega) (by omega)
theorem m_cr_152_0 : m_cr 152 0 3 = true := by decide +kernel
theorem m_cf_152 (k : Nat) (hk : k < (m_code 152).length) : m_ck 152 k = true := m_cr_ok m_cr_152_0 (Nat.zero_le k) (Nat.lt_of_lt_of_le hk (by decide +kernel))
theorem m_cr_153_0 : m_cr 153 0 11 = true := by decide +kernel
theorem m_cf_153 (k : Nat) (hk : k < (m_code 153).length) : m_ck 153 k = true := m_cr_ok m_cr_153_0 (Nat.zero_le k) (Nat.lt_of_lt_of_le hk (by decide +kernel))
theorem m_cr_154_0 : m_cr 154 0 21 = true := by decide +kernel
theorem m_cf_154 (k : Nat) (hk : k < (m_code 154).length) : m_ck 154 k = true := m_cr_ok m_cr_154_0 (Nat.zero_le k) (Nat.lt_of_lt_of_le hk (by decide +kernel))
theorem m_cr_155_0 : m_cr 155 0 3 = true := by decide +kernel
theorem m_cf_155 (k : Nat) (hk : k < (m_code 155).length) : m_ck 155 k = true := m_cr_ok m_cr_155_0 (Nat.zero_le k) (Nat.lt_of_lt_of_le hk (by decide +kernel))
theorem m_cr_156_0 : m_cr 156 0 14 = true := by decide +kernel
theorem m_cf_156 (k : Nat) (hk : k < (m_code 156).length) : m_ck 156 k = true := m_cr_ok m_cr_156_0 (Nat.zero_le k) (Nat.lt_of_lt_of_le hk (by decide +kernel))
theorem m_cr_157_0 : m_cr 157 0 26 = true := by decide +kernel
theorem m_cf_157 (k : Nat) (hk : k < (m_code 157).length) : m_ck 157 k = true := m_cr_ok m_cr_157_0 (Nat.zero_le k) (Nat.lt_of_lt_of_le hk (by decide +kernel))
theorem m_cr_158_0 : m_cr 158 0 59 = true := by decide +kernel
theorem m_cf_158 (k : Nat) (hk : k < (m_code 158).length) : m_ck 158 k = true := m_cr_ok m_cr_158_0 (Nat.zero_le k) (Nat.lt_of_lt_of_le hk (by decide +kernel))
theorem m_cr_159_0 : m_cr 159 0 24 = true := by decide +kernel
theorem m_cf_159 (k : Nat) (hk : k < (m_code 159).length) : m_ck 159 k = true := m_cr_ok m_cr_159_0 (Nat.zero_le k) (Nat.lt_of_lt_of_le hk (by decide +kernel))
theorem m_cr_160_0 : m_cr 160 0 54 = true := by decide +kernel
theorem m_cf_160 (k : Nat) (hk : k < (m_code 160).length) : m_ck 160 k = true := m_cr_ok m_cr_160_0 (Nat.zero_le k) (Nat.lt_of_lt_of_le hk (by decide +kernel))
theorem m_cr_161_0 : m_cr 161 0 60 = true := by decide +kernel
theorem m_cr_161_60 : m_cr 161 60 18 = true := by decide +kernel
theorem m_cf_161 (k : Nat) (hk : k < (m_code 161).length) : m_ck 161 k = true := by
  have h9 : k < 78 := Nat.lt_of_lt_of_le hk (by decide +kernel)
  by_cases c0 : k < 60
  · exact m_cr_ok m_cr_161_0 (by omega) (by omega)
  exact m_cr_ok m_cr_161_60 (by omega) (by omega)
theorem m_cr_162_0 : m_cr 162 0 60 = true := by decide +kernel
theorem m_cr_162_60 : m_cr 162 60 60 = true := by decide +kernel
theorem m_cr_162_120 : m_cr 162 120 2 = true := by decide +kernel
theorem m_cf_162 (k : Nat) (hk : k < (m_code 162).length) : m_ck 162 k = true := by
  have h9 : k < 122 := Nat.lt_of_lt_of_le hk (by decide +kernel)
  by_cases c0 : k < 60
  · exact m_cr_ok m_cr_162_0 (by omega) (by omega)
  by_cases c60 : k < 120
  · exact m_cr_ok m_cr_162_60 (by omega) (by omega)
  exact m_cr_ok m_cr_162_120 (by omega) (by omega)
theorem m_cr_163_0 : m_cr 163 0 35 = true := by decide +kernel
theorem m_cf_163 (k : Nat) (hk : k < (m_code 163).length) : m_ck 163 k = true := m_cr_ok m_cr_163_0 (Nat.zero_le k) (Nat.lt_of_lt_of_le hk (by decide +kernel))
theorem m_cr_164_0 : m_cr 164 0 26 = true := by decide +kernel
theorem m_cf_164 (k : Nat) (hk : k < (m_code 164).length) : m_ck 164 k = true := m_cr_ok m_cr_164_0 (Nat.zero_le k) (Nat.lt_of_lt_of_le hk (by decide +kernel))
theorem m_cr_165_0 : m_cr 165 0 11 = true := by decide +kernel
theorem m_cf_165 (k : Nat) (hk : k < (m_code 165).length) : m_ck 165 k = true := m_cr_ok m_cr_165_0 (Nat.zero_le k) (Nat.lt_of_lt_of_le hk (by decide +kernel))
theorem m_cr_166_0 : m_cr 166 0 26 = true := by decide +kernel
theorem m_cf_166 (k : Nat) (hk : k < (m_code 166).length) : m_ck 166 k = true := m_cr_ok m_cr_166_0 (Nat.zero_le k) (Nat.lt_of_lt_of_le hk (by decide +kernel))
theorem m_cr_167_0 : m_cr 167 0 60 = true := by decide +kernel
theorem m_cr_167_60 : m_cr 167 60 24 = true := by decide +kernel
theorem m_cf_167 (k : Nat) (hk : k < (m_code 167).length) : m_ck 167 k = true := by
  have h9 : k < 84 := Nat.lt_of_lt_of_le hk (by decide +kernel)
  by_cases c0 : k < 60
  · exact m_cr_ok m_cr_167_0 (by omega) (by omega)
  exact m_cr_ok m_cr_167_60 (by omega) (by omega)
theorem m_cr_168_0 : m_cr 168 0 13 = true := by decide +kernel
theorem m_cf_168 (k : Nat) (hk : k < (m_code 168).length) : m_ck 168 k = true := m_cr_ok m_cr_168_0 (Nat.zero_le k) (Nat.lt_of_lt_of_le hk (by decide +kernel))
theorem m_cr_169_0 : m_cr 169 0 35 = true := by decide +kernel
theorem m_cf_169 (k : Nat) (hk : k < (m_code 169).length) : m_ck 169 k = true := m_cr_ok m_cr_169_0 (Nat.zero_le k) (Nat.lt_of_lt_of_le hk (by decide +kernel))
theorem m_cr_170_0 : m_cr 170 0 49 = true := by decide +kernel
theorem m_cf_170 (k : Nat) (hk : k < (m_code 170).length) : m_ck 170 k = true := m_cr_ok m_cr_170_0 (Nat.zero_le k) (Nat.lt_of_lt_of_le hk (by decide +kernel))
theorem m_cr_171_0 : m_cr 171 0 42 = true := by decide +kernel
theorem m_cf_171 (k : Nat) (hk : k < (m_code 171).length) : m_ck 171 k = true := m_cr_ok m_cr_171_0 (Nat.zero_le k) (Nat.lt_of_lt_of_le hk (by decide +kernel))
theorem m_cr_172_0 : m_cr 172 0 53 = true := by decide +kernel
theorem m_cf_172 (k : Nat) (hk : k < (m_code 172).length) : m_ck 172 k = true := m_cr_ok m_cr_172_0 (Nat.zero_le k) (Nat.lt_of_lt_of_le hk (by decide +kernel))
theorem m_cr_173_0 : m_cr 173 0 16 = true := by decide +kernel
theorem m_cf_173 (k : Nat) (hk : k < (m_code 173).length) : m_ck 173 k = true := m_cr_ok m_cr_173_0 (Nat.zero_le k) (Nat.lt_of_lt_of_le hk (by decide +kernel))
theorem m_cr_174_0 : m_cr 174 0 39 = true := by decide +kernel
theorem m_cf_174 (k : Nat) (hk : k < (m_code 174).length) : m_ck 174 k = true := m_cr_ok m_cr_174_0 (Nat.zero_le k) (Nat.lt_of_lt_of_le hk (by decide +kernel))
theorem m_cr_175_0 : m_cr 175 0 40 = true := by decide +kernel
theorem m_cf_175 (k : Nat) (hk : k < (m_code 175).length) : m_ck 175 k = true := m_cr_ok m_cr_175_0 (Nat.zero_le k) (Nat.lt_of_lt_of_le hk (by decide +kernel))
theorem m_cg_0 : ∀ y ∈ ([0, 1, 2, 3, 4, 5, 6, 7, 8, 9, 10, 11, 12, 13, 14, 15, 16, 17, 18, 19, 20, 21, 22, 23, 24, 25, 26, 27, 28, 29, 30, 31, 32, 33, 34, 35, 36, 37, 38, 39, 40, 41, 42, 43] : List Nat), ∀ k, k < (m_code y).length → m_ck y k = true := List.forall_mem_cons.mpr ⟨m_cf_0, List.forall_mem_cons.mpr ⟨m_cf_1, List.forall_mem_cons.mpr ⟨m_cf_2, List.forall_mem_cons.mpr ⟨m_cf_3, List.forall_mem_cons.mpr ⟨m_cf_4, List.forall_mem_cons.mpr ⟨m_cf_5, List.forall_mem_cons.mpr ⟨m_cf_6, List.forall_mem_cons.mpr ⟨m_cf_7, List.forall_mem_cons.mpr ⟨m_cf_8, List.forall_mem_cons.mpr ⟨m_cf_9, List.forall_mem_cons.mpr ⟨m_cf_10, List.forall_mem_cons.mpr ⟨m_cf_11, List.forall_mem_cons.mpr ⟨m_cf_12, List.forall_mem_cons.mpr ⟨m_cf_13, List.forall_mem_cons.mpr ⟨m_cf_14, List.forall_mem_cons.mpr ⟨m_cf_15, List.forall_mem_cons.mpr ⟨m_cf_16, List.forall_mem_cons.mpr ⟨m_cf_17, List.forall_mem_cons.mpr ⟨m_cf_18, List.forall_mem_cons.mpr ⟨m_cf_19, List.forall_mem_cons.mpr ⟨m_cf_20, List.forall_mem_cons.mpr ⟨m_cf_21, List.forall_mem_cons.mpr ⟨m_cf_22, List.forall_mem_cons.mpr ⟨m_cf_23, List.forall_mem_cons.mpr ⟨m_cf_24, List.forall_mem_cons.mpr ⟨m_cf_25, List.forall_mem_cons.mpr ⟨m_cf_26, List.forall_mem_cons.mpr ⟨m_cf_27, List.forall_mem_cons.mpr ⟨m_cf_28, List.forall_mem_cons.mpr ⟨m_cf_29, List.forall_mem_cons.mpr ⟨m_cf_30, List.forall_mem_cons.mpr ⟨m_cf_31, List.forall_mem_cons.mpr ⟨m_cf_32, List.forall_mem_cons.mpr ⟨m_cf_33, List.forall_mem_cons.mpr ⟨m_cf_34, List.forall_mem_cons.mpr ⟨m_cf_35, List.forall_mem_cons.mpr ⟨m_cf_36, List.forall_mem_cons.mpr ⟨m_cf_37, List.forall_mem_cons.mpr ⟨m_cf_38, List.forall_mem_cons.mpr ⟨m_cf_39, List.forall_mem_cons.mpr ⟨m_cf_40, List.forall_mem_cons.mpr ⟨m_cf_41, List.forall_mem_cons.mpr ⟨m_cf_42, List.forall_mem_cons.mpr ⟨m_cf_43, fun _ h => absurd h List.not_mem_nil⟩⟩⟩⟩⟩⟩⟩⟩⟩⟩⟩⟩⟩⟩⟩⟩⟩⟩⟩⟩⟩⟩⟩⟩⟩⟩⟩⟩⟩⟩⟩⟩⟩⟩⟩⟩⟩⟩⟩⟩⟩⟩⟩⟩
theorem m_cg_44 : ∀ y ∈ ([44, 45, 46, 47, 48, 49, 50, 51, 52, 53, 54, 55, 56, 57, 58, 59, 60, 61, 62, 63, 64, 65, 66, 67, 68, 69, 70, 71, 72, 73, 74, 75, 76, 77, 78, 79, 80, 81, 82, 83, 84, 85, 86, 87] : List Nat), ∀ k, k < (m_code y).length → m_ck y k = true := List.forall_mem_cons.mpr ⟨m_cf_44, List.forall_mem_cons.mpr ⟨m_cf_45, List.forall_mem_cons.mpr ⟨m_cf_46, List.forall_mem_cons.mpr ⟨m_cf_47, List.forall_mem_cons.mpr ⟨m_cf_48, List.forall_mem_cons.mpr ⟨m_cf_49, List.forall_mem_cons.mpr ⟨m_cf_50, List.forall_mem_cons.mpr ⟨m_cf_51, List.forall_mem_cons.mpr ⟨m_cf_52, List.forall_mem_cons.mpr ⟨m_cf_53, List.forall_mem_cons.mpr ⟨m_cf_54, List.forall_mem_cons.mpr ⟨m_cf_55, List.forall_mem_cons.mpr ⟨m_cf_56, List.forall_mem_cons.mpr ⟨m_cf_57, List.forall_mem_cons.mpr ⟨m_cf_58, List.forall_mem_cons.mpr ⟨m_cf_59, List.forall_mem_cons.mpr ⟨m_cf_60, List.forall_mem_cons.mpr ⟨m_cf_61, List.forall_mem_cons.mpr ⟨m_cf_62, List.forall_mem_cons.mpr ⟨m_cf_63, List.forall_mem_cons.mpr ⟨m_cf_64, List.forall_mem_cons.mpr ⟨m_cf_65, List.forall_mem_cons.mpr ⟨m_cf_66, List.forall_mem_cons.mpr ⟨m_cf_67, List.forall_mem_cons.mpr ⟨m_cf_68, List.forall_mem_cons.mpr ⟨m_cf_69, List.forall_mem_cons.mpr ⟨m_cf_70, List.forall_mem_cons.mpr ⟨m_cf_71, List.forall_mem_cons.mpr ⟨m_cf_72, List.forall_mem_cons.mpr ⟨m_cf_73, List.forall_mem_cons.mpr ⟨m_cf_74, List.forall_mem_cons.mpr ⟨m_cf_75, List.forall_mem_cons.mpr ⟨m_cf_76, List.forall_mem_cons.mpr ⟨m_cf_77, List.forall_mem_cons.mpr ⟨m_cf_78, List.forall_mem_cons.mpr ⟨m_cf_79, List.forall_mem_cons.mpr ⟨m_cf_80, List.forall_mem_cons.mpr ⟨m_cf_81, List.forall_mem_cons.mpr ⟨m_cf_82, List.forall_mem_cons.mpr ⟨m_cf_83, List.forall_mem_cons.mpr ⟨m_cf_84, List.forall_mem_cons.mpr ⟨m_cf_85, List.forall_mem_cons.mpr ⟨m_cf_86, List.forall_mem_cons.mpr ⟨m_cf_87, fun _ h => absurd h List.not_mem_nil⟩⟩⟩⟩⟩⟩⟩⟩⟩⟩⟩⟩⟩⟩⟩⟩⟩⟩⟩⟩⟩⟩⟩⟩⟩⟩⟩⟩⟩⟩⟩⟩⟩⟩⟩⟩⟩⟩⟩⟩⟩⟩⟩⟩
theorem m_cg_88 : ∀ y ∈ ([88, 89, 90, 91, 92, 93, 94, 95, 96, 97, 98, 99, 100, 101, 102, 103, 104, 105, 106, 107, 108, 109, 110, 111, 112, 113, 114, 115, 116, 117, 118, 119, 120, 121, 122, 123, 124, 125, 126, 127, 128, 129, 130, 131] : List Nat), ∀ k, k < (m_code y).length → m_ck y k = true := List.forall_mem_cons.mpr ⟨m_cf_88, List.forall_mem_cons.mpr ⟨m_cf_89, List.forall_mem_cons.mpr ⟨m_cf_90, List.forall_mem_cons.mpr ⟨m_cf_91, List.forall_mem_cons.mpr ⟨m_cf_92, List.forall_mem_cons.mpr ⟨m_cf_93, List.forall_mem_cons.mpr ⟨m_cf_94, List.forall_mem_cons.mpr ⟨m_cf_95, List.forall_mem_cons.mpr ⟨m_cf_96, List.forall_mem_cons.mpr ⟨m_cf_97, List.forall_mem_cons.mpr ⟨m_cf_98, List.forall_mem_cons.mpr ⟨m_cf_99, List.forall_mem_cons.mpr ⟨m_cf_100, List.forall_mem_cons.mpr ⟨m_cf_101, List.forall_mem_cons.mpr ⟨m_cf_102, List.forall_mem_cons.mpr ⟨m_cf_103, List.forall_mem_cons.mpr ⟨m_cf_104, List.forall_mem_cons.mpr ⟨m_cf_105, List.forall_mem_cons.mpr ⟨m_cf_106, List.forall_mem_cons.mpr ⟨m_cf_107, List.forall_mem_cons.mpr ⟨m_cf_108, List.forall_mem_cons.mpr ⟨m_cf_109, List.forall_mem_cons.mpr ⟨m_cf_110, List.forall_mem_cons.mpr ⟨m_cf_111, List.forall_mem_cons.mpr ⟨m_cf_112, List.forall_mem_cons.mpr ⟨m_cf_113, List.forall_mem_cons.mpr ⟨m_cf_114, List.forall_mem_cons.mpr ⟨m_cf_115, List.forall_mem_cons.mpr ⟨m_cf_116, List.forall_mem_cons.mpr ⟨m_cf_117, List.forall_mem_cons.mpr ⟨m_cf_118, List.forall_mem_cons.mpr ⟨m_cf_119, List.forall_mem_cons.mpr ⟨m_cf_120, List.forall_mem_cons.mpr ⟨m_cf_121, List.forall_mem_cons.mpr ⟨m_cf_122, List.forall_mem_cons.mpr ⟨m_cf_123, List.forall_mem_cons.mpr ⟨m_cf_124, List.forall_mem_cons.mpr ⟨m_cf_125, List.forall_mem_cons.mpr ⟨m_cf_126, List.forall_mem_cons.mpr ⟨m_cf_127, List.forall_mem_cons.mpr ⟨m_cf_128, List.forall_mem_cons.mpr ⟨m_cf_129, List.forall_mem_cons.mpr ⟨m_cf_130, List.forall_mem_cons.mpr ⟨m_cf_131, fun _ h => absurd h List.not_mem_nil⟩⟩⟩⟩⟩⟩⟩⟩⟩⟩⟩⟩⟩⟩⟩⟩⟩⟩⟩⟩⟩⟩⟩⟩⟩⟩⟩⟩⟩⟩⟩⟩⟩⟩⟩⟩⟩⟩⟩⟩⟩⟩⟩⟩
theorem m_cg_132 : ∀ y ∈ ([132, 133, 134, 135, 136, 137, 138, 139, 140, 141, 142, 143, 144, 145, 146, 147, 148, 149, 150, 151, 152, 153, 154, 155, 156, 157, 158, 159, 160, 161, 162, 163, 164, 165, 166, 167, 168, 169, 170, 171, 172, 173, 174, 175] : List Nat), ∀ k, k < (m_code y).length → m_ck y k = true := List.forall_mem_cons.mpr ⟨m_cf_132, List.forall_mem_cons.mpr ⟨m_cf_133, List.forall_mem_cons.mpr ⟨m_cf_134, List.forall_mem_cons.mpr ⟨m_cf_135, List.forall_mem_cons.mpr ⟨m_cf_136, List.forall_mem_cons.mpr ⟨m_cf_137, List.forall_mem_cons.mpr ⟨m_cf_138, List.forall_mem_cons.mpr ⟨m_cf_139, List.forall_mem_cons.mpr ⟨m_cf_140, List.forall_mem_cons.mpr ⟨m_cf_141, List.forall_mem_cons.mpr ⟨m_cf_142, List.forall_mem_cons.mpr ⟨m_cf_143, List.forall_mem_cons.mpr ⟨m_cf_144, List.forall_mem_cons.mpr ⟨m_cf_145, List.forall_mem_cons.mpr ⟨m_cf_146, List.forall_mem_cons.mpr ⟨m_cf_147, List.forall_mem_cons.mpr ⟨m_cf_148, List.forall_mem_cons.mpr ⟨m_cf_149, List.forall_mem_cons.mpr ⟨m_cf_150, List.forall_mem_cons.mpr ⟨m_cf_151, List.forall_mem_cons.mpr ⟨m_cf_152, List.forall_mem_cons.mpr ⟨m_cf_153, List.forall_mem_cons.mpr ⟨m_cf_154, List.forall_mem_cons.mpr ⟨m_cf_155, List.forall_mem_cons.mpr ⟨m_cf_156, List.forall_mem_cons.mpr ⟨m_cf_157, List.forall_mem_cons.mpr ⟨m_cf_158, List.forall_mem_cons.mpr ⟨m_cf_159, List.forall_mem_cons.mpr ⟨m_cf_160, List.forall_mem_cons.mpr ⟨m_cf_161, List.forall_mem_cons.mpr ⟨m_cf_162, List.forall_mem_cons.mpr ⟨m_cf_163, List.forall_mem_cons.mpr ⟨m_cf_164, List.forall_mem_cons.mpr ⟨m_cf_165, List.forall_mem_cons.mpr ⟨m_cf_166, List.forall_mem_cons.mpr ⟨m_cf_167, List.forall_mem_cons.mpr ⟨m_cf_168, List.forall_mem_cons.mpr ⟨m_cf_169, List.forall_mem_cons.mpr ⟨m_cf_170, List.forall_mem_cons.mpr ⟨m_cf_171, List.forall_mem_cons.mpr ⟨m_cf_172, List.forall_mem_cons.mpr ⟨m_cf_173, List.forall_mem_cons.mpr ⟨m_cf_174, List.forall_mem_cons.mpr ⟨m_cf_175, fun _ h => absurd h List.not_mem_nil⟩⟩⟩⟩⟩⟩⟩⟩⟩⟩⟩⟩⟩⟩⟩⟩⟩⟩⟩⟩⟩⟩⟩⟩⟩⟩⟩⟩⟩⟩⟩⟩⟩⟩⟩⟩⟩⟩⟩⟩⟩⟩⟩⟩
theorem m_ci_0 : ∀ z ∈ List.range 44, z + 0 ∈ ([0, 1, 2, 3, 4, 5, 6, 7, 8, 9, 10, 11, 12, 13, 14, 15, 16, 17, 18, 19, 20, 21, 22, 23, 24, 25, 26, 27, 28, 29, 30, 31, 32, 33, 34, 35, 36, 37, 38, 39, 40, 41, 42, 43] : List Nat) := by decide +kernel
theorem m_ci_44 : ∀ z ∈ List.range 44, z + 44 ∈ ([44, 45, 46, 47, 48, 49, 50, 51, 52, 53, 54, 55, 56, 57, 58, 59, 60, 61, 62, 63, 64, 65, 66, 67, 68, 69, 70, 71, 72, 73, 74, 75, 76, 77, 78, 79, 80, 81, 82, 83, 84, 85, 86, 87] : List Nat) := by decide +kernel
theorem m_ci_88 : ∀ z ∈ List.range 44, z + 88 ∈ ([88, 89, 90, 91, 92, 93, 94, 95, 96, 97, 98, 99, 100, 101, 102, 103, 104, 105, 106, 107, 108, 109, 110, 111, 112, 113, 114, 115, 116, 117, 118, 119, 120, 121, 122, 123, 124, 125, 126, 127, 128, 129, 130, 131] : List Nat) := by decide +kernel
theorem m_ci_132 : ∀ z ∈ List.range 44, z + 132 ∈ ([132, 133, 134, 135, 136, 137, 138, 139, 140, 141, 142, 143, 144, 145, 146, 147, 148, 149, 150, 151, 152, 153, 154, 155, 156, 157, 158, 159, 160, 161, 162, 163, 164, 165, 166, 167, 168, 169, 170, 171, 172, 173, 174, 175] : List Nat) := by decide +kernel
theorem m_ck_all {y : Nat} (hy : y < 176) (k : Nat) (hk : k < (m_code y).length) : m_ck y k = true := by
  by_cases c0 : y < 44
  · have h1 := m_ci_0 (y - 0) (List.mem_range.mpr (by omega))
    rw [show y - 0 + 0 = y by omega] at h1
    exact m_cg_0 y h1 k hk
  by_cases c44 : y < 88
  · have h1 := m_ci_44 (y - 44) (List.mem_range.mpr (by omega))
    rw [show y - 44 + 44 = y by omega] at h1
    exact m_cg_44 y h1 k hk
  by_cases c88 : y < 132
  · have h1 := m_ci_88 (y - 88) (List.mem_range.mpr (by omega))
    rw [show y - 88 + 88 = y by omega] at h1
    exact m_cg_88 y h1 k hk
  have h1 := m_ci_132 (y - 132) (List.mem_range.mpr (by omega))
  rw [show y - 132 + 132 = y by omega] at h1
  exact m_cg_132 y h1 k hk
