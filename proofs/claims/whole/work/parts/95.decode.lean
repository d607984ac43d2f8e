theorem all_cut {α : Type} {l : List α} {p : α → Bool} {i : Nat} (n : Nat) (h1 : (((l.drop i).take n).all p) = true) (h2 : ((l.drop (i + n)).all p) = true) : ((l.drop i).all p) = true := by
  rw [← List.take_append_drop n (l.drop i), List.all_append, h1, Bool.true_and, List.drop_drop]
  first | exact h2 | (rw [Nat.add_comm]; exact h2)
set_option maxRecDepth 100000 in
theorem dk_0 : (md_0.2.2.2.all (okE (mC 0))) = true := by decide +kernel
set_option maxRecDepth 100000 in
theorem dk_1 : (md_1.2.2.2.all (okE (mC 1))) = true := by decide +kernel
set_option maxRecDepth 100000 in
theorem dk_2 : (md_2.2.2.2.all (okE (mC 2))) = true := by decide +kernel
set_option maxRecDepth 100000 in
theorem dk_3 : (md_3.2.2.2.all (okE (mC 3))) = true := by decide +kernel
set_option maxRecDepth 100000 in
theorem dk_4 : (md_4.2.2.2.all (okE (mC 4))) = true := by decide +kernel
set_option maxRecDepth 100000 in
theorem dk_5 : (md_5.2.2.2.all (okE (mC 5))) = true := by decide +kernel
set_option maxRecDepth 100000 in
theorem dk_6 : (md_6.2.2.2.all (okE (mC 6))) = true := by decide +kernel
set_option maxRecDepth 100000 in
theorem dk_7 : (md_7.2.2.2.all (okE (mC 7))) = true := by decide +kernel
set_option maxRecDepth 100000 in
theorem dk_8 : (md_8.2.2.2.all (okE (mC 8))) = true := by decide +kernel
set_option maxRecDepth 100000 in
theorem dk_9 : (md_9.2.2.2.all (okE (mC 9))) = true := by decide +kernel
set_option maxRecDepth 100000 in
theorem dk_10 : (md_10.2.2.2.all (okE (mC 10))) = true := by decide +kernel
set_option maxRecDepth 100000 in
theorem dk_11 : (md_11.2.2.2.all (okE (mC 11))) = true := by decide +kernel
set_option maxRecDepth 100000 in
theorem dk_12 : (md_12.2.2.2.all (okE (mC 12))) = true := by decide +kernel
set_option maxRecDepth 100000 in
theorem dk_13 : (md_13.2.2.2.all (okE (mC 13))) = true := by decide +kernel
set_option maxRecDepth 100000 in
theorem dk_14 : (md_14.2.2.2.all (okE (mC 14))) = true := by decide +kernel
set_option maxRecDepth 100000 in
theorem dk_15 : (md_15.2.2.2.all (okE (mC 15))) = true := by decide +kernel
set_option maxRecDepth 100000 in
theorem dk_16 : (md_16.2.2.2.all (okE (mC 16))) = true := by decide +kernel
set_option maxRecDepth 100000 in
theorem dk_17 : (md_17.2.2.2.all (okE (mC 17))) = true := by decide +kernel
set_option maxRecDepth 100000 in
theorem dk_18 : (md_18.2.2.2.all (okE (mC 18))) = true := by decide +kernel
set_option maxRecDepth 100000 in
theorem dk_19 : (md_19.2.2.2.all (okE (mC 19))) = true := by decide +kernel
set_option maxRecDepth 100000 in
theorem dk_20 : (md_20.2.2.2.all (okE (mC 20))) = true := by decide +kernel
set_option maxRecDepth 100000 in
theorem dk_21 : (md_21.2.2.2.all (okE (mC 21))) = true := by decide +kernel
set_option maxRecDepth 100000 in
theorem dk_22 : (md_22.2.2.2.all (okE (mC 22))) = true := by decide +kernel
set_option maxRecDepth 100000 in
theorem dk_23 : (md_23.2.2.2.all (okE (mC 23))) = true := by decide +kernel
set_option maxRecDepth 100000 in
theorem dk_24 : (md_24.2.2.2.all (okE (mC 24))) = true := by decide +kernel
set_option maxRecDepth 100000 in
theorem dk_25 : (md_25.2.2.2.all (okE (mC 25))) = true := by decide +kernel
set_option maxRecDepth 100000 in
theorem dk_26 : (md_26.2.2.2.all (okE (mC 26))) = true := by decide +kernel
set_option maxRecDepth 100000 in
theorem dk_27 : (md_27.2.2.2.all (okE (mC 27))) = true := by decide +kernel
set_option maxRecDepth 100000 in
theorem dk_28 : (md_28.2.2.2.all (okE (mC 28))) = true := by decide +kernel
set_option maxRecDepth 100000 in
theorem dk_29 : (md_29.2.2.2.all (okE (mC 29))) = true := by decide +kernel
set_option maxRecDepth 100000 in
theorem dk_30 : (md_30.2.2.2.all (okE (mC 30))) = true := by decide +kernel
set_option maxRecDepth 100000 in
theorem dk_31 : (md_31.2.2.2.all (okE (mC 31))) = true := by decide +kernel
set_option maxRecDepth 100000 in
theorem dk_32 : (md_32.2.2.2.all (okE (mC 32))) = true := by decide +kernel
set_option maxRecDepth 100000 in
theorem dk_33 : (md_33.2.2.2.all (okE (mC 33))) = true := by decide +kernel
set_option maxRecDepth 100000 in
theorem dk_34 : (md_34.2.2.2.all (okE (mC 34))) = true := by decide +kernel
set_option maxRecDepth 100000 in
theorem dk_35 : (md_35.2.2.2.all (okE (mC 35))) = true := by decide +kernel
set_option maxRecDepth 100000 in
theorem dk_36 : (md_36.2.2.2.all (okE (mC 36))) = true := by decide +kernel
set_option maxRecDepth 100000 in
theorem dk_37 : (md_37.2.2.2.all (okE (mC 37))) = true := by decide +kernel
set_option maxRecDepth 100000 in
theorem dk_38 : (md_38.2.2.2.all (okE (mC 38))) = true := by decide +kernel
set_option maxRecDepth 100000 in
theorem dk_39 : (md_39.2.2.2.all (okE (mC 39))) = true := by decide +kernel
set_option maxRecDepth 100000 in
theorem dk_40 : (md_40.2.2.2.all (okE (mC 40))) = true := by decide +kernel
set_option maxRecDepth 100000 in
theorem dk_41 : (md_41.2.2.2.all (okE (mC 41))) = true := by decide +kernel
set_option maxRecDepth 100000 in
theorem dk_42 : (md_42.2.2.2.all (okE (mC 42))) = true := by decide +kernel
set_option maxRecDepth 100000 in
theorem dk_43 : (md_43.2.2.2.all (okE (mC 43))) = true := by decide +kernel
set_option maxRecDepth 100000 in
theorem dk_44 : (md_44.2.2.2.all (okE (mC 44))) = true := by decide +kernel
set_option maxRecDepth 100000 in
theorem dk_45 : (md_45.2.2.2.all (okE (mC 45))) = true := by decide +kernel
set_option maxRecDepth 100000 in
theorem dk_46 : (md_46.2.2.2.all (okE (mC 46))) = true := by decide +kernel
set_option maxRecDepth 100000 in
theorem dk_47 : (md_47.2.2.2.all (okE (mC 47))) = true := by decide +kernel
set_option maxRecDepth 100000 in
theorem dk_48 : (md_48.2.2.2.all (okE (mC 48))) = true := by decide +kernel
set_option maxRecDepth 100000 in
theorem dk_49 : (md_49.2.2.2.all (okE (mC 49))) = true := by decide +kernel
set_option maxRecDepth 100000 in
theorem dk_50 : (md_50.2.2.2.all (okE (mC 50))) = true := by decide +kernel
set_option maxRecDepth 100000 in
theorem dk_51 : (md_51.2.2.2.all (okE (mC 51))) = true := by decide +kernel
set_option maxRecDepth 100000 in
theorem dk_52 : (md_52.2.2.2.all (okE (mC 52))) = true := by decide +kernel
set_option maxRecDepth 100000 in
theorem dk_53 : (md_53.2.2.2.all (okE (mC 53))) = true := by decide +kernel
set_option maxRecDepth 100000 in
theorem dk_54 : (md_54.2.2.2.all (okE (mC 54))) = true := by decide +kernel
set_option maxRecDepth 100000 in
theorem dk_55 : (md_55.2.2.2.all (okE (mC 55))) = true := by decide +kernel
set_option maxRecDepth 100000 in
theorem dk_56 : (md_56.2.2.2.all (okE (mC 56))) = true := by decide +kernel
set_option maxRecDepth 100000 in
theorem dk_57 : (md_57.2.2.2.all (okE (mC 57))) = true := by decide +kernel
set_option maxRecDepth 100000 in
theorem dk_58 : (md_58.2.2.2.all (okE (mC 58))) = true := by decide +kernel
set_option maxRecDepth 100000 in
theorem dk_59 : (md_59.2.2.2.all (okE (mC 59))) = true := by decide +kernel
set_option maxRecDepth 100000 in
theorem dk_60 : (md_60.2.2.2.all (okE (mC 60))) = true := by decide +kernel
set_option maxRecDepth 100000 in
theorem dk_61 : (md_61.2.2.2.all (okE (mC 61))) = true := by decide +kernel
set_option maxRecDepth 100000 in
theorem dk_62 : (md_62.2.2.2.all (okE (mC 62))) = true := by decide +kernel
set_option maxRecDepth 100000 in
theorem dk_63 : (md_63.2.2.2.all (okE (mC 63))) = true := by decide +kernel
set_option maxRecDepth 100000 in
theorem dk_64 : (md_64.2.2.2.all (okE (mC 64))) = true := by decide +kernel
set_option maxRecDepth 100000 in
theorem dk_65 : (md_65.2.2.2.all (okE (mC 65))) = true := by decide +kernel
set_option maxRecDepth 100000 in
theorem dk_66 : (md_66.2.2.2.all (okE (mC 66))) = true := by decide +kernel
set_option maxRecDepth 100000 in
theorem dk_67 : (md_67.2.2.2.all (okE (mC 67))) = true := by decide +kernel
set_option maxRecDepth 100000 in
theorem dk_68 : (md_68.2.2.2.all (okE (mC 68))) = true := by decide +kernel
set_option maxRecDepth 100000 in
theorem dk_69 : (md_69.2.2.2.all (okE (mC 69))) = true := by decide +kernel
set_option maxRecDepth 100000 in
theorem dk_70 : (md_70.2.2.2.all (okE (mC 70))) = true := by decide +kernel
set_option maxRecDepth 100000 in
theorem dk_71 : (md_71.2.2.2.all (okE (mC 71))) = true := by decide +kernel
set_option maxRecDepth 100000 in
theorem dk_72 : (md_72.2.2.2.all (okE (mC 72))) = true := by decide +kernel
set_option maxRecDepth 100000 in
theorem dk_73 : (md_73.2.2.2.all (okE (mC 73))) = true := by decide +kernel
set_option maxRecDepth 100000 in
theorem dk_74 : (md_74.2.2.2.all (okE (mC 74))) = true := by decide +kernel
set_option maxRecDepth 100000 in
theorem dk_75 : (md_75.2.2.2.all (okE (mC 75))) = true := by decide +kernel
set_option maxRecDepth 100000 in
theorem dk_76 : (md_76.2.2.2.all (okE (mC 76))) = true := by decide +kernel
set_option maxRecDepth 100000 in
theorem dk_77 : (md_77.2.2.2.all (okE (mC 77))) = true := by decide +kernel
set_option maxRecDepth 100000 in
theorem dk_78 : (md_78.2.2.2.all (okE (mC 78))) = true := by decide +kernel
set_option maxRecDepth 100000 in
theorem dk_79 : (md_79.2.2.2.all (okE (mC 79))) = true := by decide +kernel
set_option maxRecDepth 100000 in
theorem dk_80 : (md_80.2.2.2.all (okE (mC 80))) = true := by decide +kernel
set_option maxRecDepth 100000 in
theorem dk_81 : (md_81.2.2.2.all (okE (mC 81))) = true := by decide +kernel
set_option maxRecDepth 100000 in
theorem dk_82 : (md_82.2.2.2.all (okE (mC 82))) = true := by decide +kernel
set_option maxRecDepth 100000 in
theorem dk_83 : (md_83.2.2.2.all (okE (mC 83))) = true := by decide +kernel
set_option maxRecDepth 100000 in
theorem dk_84 : (md_84.2.2.2.all (okE (mC 84))) = true := by decide +kernel
set_option maxRecDepth 100000 in
theorem dk_85 : (md_85.2.2.2.all (okE (mC 85))) = true := by decide +kernel
set_option maxRecDepth 100000 in
theorem dk_86 : (md_86.2.2.2.all (okE (mC 86))) = true := by decide +kernel
set_option maxRecDepth 100000 in
theorem dk_87 : (md_87.2.2.2.all (okE (mC 87))) = true := by decide +kernel
set_option maxRecDepth 100000 in
theorem dk_88 : (md_88.2.2.2.all (okE (mC 88))) = true := by decide +kernel
set_option maxRecDepth 100000 in
theorem dk_89 : (md_89.2.2.2.all (okE (mC 89))) = true := by decide +kernel
set_option maxRecDepth 100000 in
theorem dk_90 : (md_90.2.2.2.all (okE (mC 90))) = true := by decide +kernel
set_option maxRecDepth 100000 in
theorem dk_91 : (md_91.2.2.2.all (okE (mC 91))) = true := by decide +kernel
set_option maxRecDepth 100000 in
theorem dk_92 : (md_92.2.2.2.all (okE (mC 92))) = true := by decide +kernel
set_option maxRecDepth 100000 in
theorem dk_93 : (md_93.2.2.2.all (okE (mC 93))) = true := by decide +kernel
set_option maxRecDepth 100000 in
theorem dk_94 : (md_94.2.2.2.all (okE (mC 94))) = true := by decide +kernel
set_option maxRecDepth 100000 in
theorem dk_95 : (md_95.2.2.2.all (okE (mC 95))) = true := by decide +kernel
set_option maxRecDepth 100000 in
theorem dk_96 : (md_96.2.2.2.all (okE (mC 96))) = true := by decide +kernel
set_option maxRecDepth 100000 in
theorem dk_97 : (md_97.2.2.2.all (okE (mC 97))) = true := by decide +kernel
set_option maxRecDepth 100000 in
theorem dk_98 : (md_98.2.2.2.all (okE (mC 98))) = true := by decide +kernel
set_option maxRecDepth 100000 in
theorem dk_99 : (md_99.2.2.2.all (okE (mC 99))) = true := by decide +kernel
set_option maxRecDepth 100000 in
theorem dk_100 : (md_100.2.2.2.all (okE (mC 100))) = true := by decide +kernel
set_option maxRecDepth 100000 in
theorem dk_101 : (md_101.2.2.2.all (okE (mC 101))) = true := by decide +kernel
set_option maxRecDepth 100000 in
theorem dk_102 : (md_102.2.2.2.all (okE (mC 102))) = true := by decide +kernel
set_option maxRecDepth 100000 in
theorem dk_103 : (md_103.2.2.2.all (okE (mC 103))) = true := by decide +kernel
set_option maxRecDepth 100000 in
theorem dk_104 : (md_104.2.2.2.all (okE (mC 104))) = true := by decide +kernel
set_option maxRecDepth 100000 in
theorem dk_105 : (md_105.2.2.2.all (okE (mC 105))) = true := by decide +kernel
set_option maxRecDepth 100000 in
theorem dk_106 : (md_106.2.2.2.all (okE (mC 106))) = true := by decide +kernel
set_option maxRecDepth 100000 in
theorem dk_107 : (md_107.2.2.2.all (okE (mC 107))) = true := by decide +kernel
set_option maxRecDepth 100000 in
theorem dk_108 : (md_108.2.2.2.all (okE (mC 108))) = true := by decide +kernel
set_option maxRecDepth 100000 in
theorem dk_109 : (md_109.2.2.2.all (okE (mC 109))) = true := by decide +kernel
set_option maxRecDepth 100000 in
theorem dk_110 : (md_110.2.2.2.all (okE (mC 110))) = true := by decide +kernel
set_option maxRecDepth 100000 in
theorem dk_111 : (md_111.2.2.2.all (okE (mC 111))) = true := by decide +kernel
set_option maxRecDepth 100000 in
theorem dk_112 : (md_112.2.2.2.all (okE (mC 112))) = true := by decide +kernel
set_option maxRecDepth 100000 in
theorem dk_113 : (md_113.2.2.2.all (okE (mC 113))) = true := by decide +kernel
set_option maxRecDepth 100000 in
theorem dk_114 : (md_114.2.2.2.all (okE (mC 114))) = true := by decide +kernel
set_option maxRecDepth 100000 in
theorem dk_115 : (md_115.2.2.2.all (okE (mC 115))) = true := by decide +kernel
set_option maxRecDepth 100000 in
theorem dk_116 : (md_116.2.2.2.all (okE (mC 116))) = true := by decide +kernel
set_option maxRecDepth 100000 in
theorem dk_117 : (md_117.2.2.2.all (okE (mC 117))) = true := by decide +kernel
set_option maxRecDepth 100000 in
theorem dk_118 : (md_118.2.2.2.all (okE (mC 118))) = true := by decide +kernel
set_option maxRecDepth 100000 in
theorem dk_119 : (md_119.2.2.2.all (okE (mC 119))) = true := by decide +kernel
set_option maxRecDepth 100000 in
theorem dk_120 : (md_120.2.2.2.all (okE (mC 120))) = true := by decide +kernel
set_option maxRecDepth 100000 in
theorem dk_121 : (md_121.2.2.2.all (okE (mC 121))) = true := by decide +kernel
set_option maxRecDepth 100000 in
theorem dk_122 : (md_122.2.2.2.all (okE (mC 122))) = true := by decide +kernel
set_option maxRecDepth 100000 in
theorem dk_123 : (md_123.2.2.2.all (okE (mC 123))) = true := by decide +kernel
set_option maxRecDepth 100000 in
theorem dk_124 : (md_124.2.2.2.all (okE (mC 124))) = true := by decide +kernel
set_option maxRecDepth 100000 in
theorem dk_125 : (md_125.2.2.2.all (okE (mC 125))) = true := by decide +kernel
set_option maxRecDepth 100000 in
theorem dk_126 : (md_126.2.2.2.all (okE (mC 126))) = true := by decide +kernel
set_option maxRecDepth 100000 in
theorem dk_127 : (md_127.2.2.2.all (okE (mC 127))) = true := by decide +kernel
set_option maxRecDepth 100000 in
theorem dk_128 : (md_128.2.2.2.all (okE (mC 128))) = true := by decide +kernel
set_option maxRecDepth 100000 in
theorem dk_129 : (md_129.2.2.2.all (okE (mC 129))) = true := by decide +kernel
set_option maxRecDepth 100000 in
theorem dk_130 : (md_130.2.2.2.all (okE (mC 130))) = true := by decide +kernel
set_option maxRecDepth 100000 in
theorem dk_131 : (md_131.2.2.2.all (okE (mC 131))) = true := by decide +kernel
set_option maxRecDepth 100000 in
theorem dk_132 : (md_132.2.2.2.all (okE (mC 132))) = true := by decide +kernel
set_option maxRecDepth 100000 in
theorem dk_133 : (md_133.2.2.2.all (okE (mC 133))) = true := by decide +kernel
set_option maxRecDepth 100000 in
theorem dk_134 : (md_134.2.2.2.all (okE (mC 134))) = true := by decide +kernel
set_option maxRecDepth 100000 in
theorem dk_135 : (md_135.2.2.2.all (okE (mC 135))) = true := by decide +kernel
set_option maxRecDepth 100000 in
theorem dk_136 : (md_136.2.2.2.all (okE (mC 136))) = true := by decide +kernel
set_option maxRecDepth 100000 in
theorem dk_137 : (md_137.2.2.2.all (okE (mC 137))) = true := by decide +kernel
set_option maxRecDepth 100000 in
theorem dk_138 : (md_138.2.2.2.all (okE (mC 138))) = true := by decide +kernel
set_option maxRecDepth 100000 in
theorem dk_139 : (md_139.2.2.2.all (okE (mC 139))) = true := by decide +kernel
set_option maxRecDepth 100000 in
theorem dk_140 : (md_140.2.2.2.all (okE (mC 140))) = true := by decide +kernel
set_option maxRecDepth 100000 in
theorem dk_141 : (md_141.2.2.2.all (okE (mC 141))) = true := by decide +kernel
set_option maxRecDepth 100000 in
theorem dk_142 : (md_142.2.2.2.all (okE (mC 142))) = true := by decide +kernel
set_option maxRecDepth 100000 in
theorem dk_143 : (md_143.2.2.2.all (okE (mC 143))) = true := by decide +kernel
set_option maxRecDepth 100000 in
theorem dk_144 : (md_144.2.2.2.all (okE (mC 144))) = true := by decide +kernel
set_option maxRecDepth 100000 in
theorem dk_145 : (md_145.2.2.2.all (okE (mC 145))) = true := by decide +kernel
set_option maxRecDepth 100000 in
theorem dk_146 : (md_146.2.2.2.all (okE (mC 146))) = true := by decide +kernel
set_option maxRecDepth 100000 in
theorem dk_147 : (md_147.2.2.2.all (okE (mC 147))) = true := by decide +kernel
set_option maxRecDepth 100000 in
theorem dk_148 : (md_148.2.2.2.all (okE (mC 148))) = true := by decide +kernel
set_option maxRecDepth 100000 in
theorem dk_149 : (md_149.2.2.2.all (okE (mC 149))) = true := by decide +kernel
set_option maxRecDepth 100000 in
theorem dk_150 : (md_150.2.2.2.all (okE (mC 150))) = true := by decide +kernel
set_option maxRecDepth 100000 in
theorem dk_151 : (md_151.2.2.2.all (okE (mC 151))) = true := by decide +kernel
set_option maxRecDepth 100000 in
theorem dk_152_0 : (((md_152.2.2.2.drop 0).take 100).all (okE (mC 152))) = true := by decide +kernel
set_option maxRecDepth 100000 in
theorem dk_152_100 : (((md_152.2.2.2.drop 100).take 100).all (okE (mC 152))) = true := by decide +kernel
theorem dk_152 : (md_152.2.2.2.all (okE (mC 152))) = true := all_cut (l := md_152.2.2.2) (i := 0) 100 dk_152_0 (all_cut (l := md_152.2.2.2) (i := 100) 100 dk_152_100 (by decide +kernel))
set_option maxRecDepth 100000 in
theorem dk_153 : (md_153.2.2.2.all (okE (mC 153))) = true := by decide +kernel
set_option maxRecDepth 100000 in
theorem dk_154 : (md_154.2.2.2.all (okE (mC 154))) = true := by decide +kernel
set_option maxRecDepth 100000 in
theorem dk_155 : (md_155.2.2.2.all (okE (mC 155))) = true := by decide +kernel
set_option maxRecDepth 100000 in
theorem dk_156 : (md_156.2.2.2.all (okE (mC 156))) = true := by decide +kernel
set_option maxRecDepth 100000 in
theorem dk_157 : (md_157.2.2.2.all (okE (mC 157))) = true := by decide +kernel
set_option maxRecDepth 100000 in
theorem dk_158 : (md_158.2.2.2.all (okE (mC 158))) = true := by decide +kernel
set_option maxRecDepth 100000 in
theorem dk_159_0 : (((md_159.2.2.2.drop 0).take 100).all (okE (mC 159))) = true := by decide +kernel
set_option maxRecDepth 100000 in
theorem dk_159_100 : (((md_159.2.2.2.drop 100).take 100).all (okE (mC 159))) = true := by decide +kernel
set_option maxRecDepth 100000 in
theorem dk_159_200 : (((md_159.2.2.2.drop 200).take 100).all (okE (mC 159))) = true := by decide +kernel
theorem dk_159 : (md_159.2.2.2.all (okE (mC 159))) = true := all_cut (l := md_159.2.2.2) (i := 0) 100 dk_159_0 (all_cut (l := md_159.2.2.2) (i := 100) 100 dk_159_100 (all_cut (l := md_159.2.2.2) (i := 200) 100 dk_159_200 (by decide +kernel)))
set_option maxRecDepth 100000 in
theorem dk_160 : (md_160.2.2.2.all (okE (mC 160))) = true := by decide +kernel
set_option maxRecDepth 100000 in
theorem dk_161 : (md_161.2.2.2.all (okE (mC 161))) = true := by decide +kernel
set_option maxRecDepth 100000 in
theorem dk_162 : (md_162.2.2.2.all (okE (mC 162))) = true := by decide +kernel
set_option maxRecDepth 100000 in
theorem dk_163_0 : (((md_163.2.2.2.drop 0).take 100).all (okE (mC 163))) = true := by decide +kernel
set_option maxRecDepth 100000 in
theorem dk_163_100 : (((md_163.2.2.2.drop 100).take 100).all (okE (mC 163))) = true := by decide +kernel
theorem dk_163 : (md_163.2.2.2.all (okE (mC 163))) = true := all_cut (l := md_163.2.2.2) (i := 0) 100 dk_163_0 (all_cut (l := md_163.2.2.2) (i := 100) 100 dk_163_100 (by decide +kernel))
set_option maxRecDepth 100000 in
theorem dk_164_0 : (((md_164.2.2.2.drop 0).take 100).all (okE (mC 164))) = true := by decide +kernel
set_option maxRecDepth 100000 in
theorem dk_164_100 : (((md_164.2.2.2.drop 100).take 100).all (okE (mC 164))) = true := by decide +kernel
theorem dk_164 : (md_164.2.2.2.all (okE (mC 164))) = true := all_cut (l := md_164.2.2.2) (i := 0) 100 dk_164_0 (all_cut (l := md_164.2.2.2) (i := 100) 100 dk_164_100 (by decide +kernel))
set_option maxRecDepth 100000 in
theorem dk_165 : (md_165.2.2.2.all (okE (mC 165))) = true := by decide +kernel
set_option maxRecDepth 100000 in
theorem dk_166 : (md_166.2.2.2.all (okE (mC 166))) = true := by decide +kernel
set_option maxRecDepth 100000 in
theorem dk_167 : (md_167.2.2.2.all (okE (mC 167))) = true := by decide +kernel
set_option maxRecDepth 100000 in
theorem dk_168 : (md_168.2.2.2.all (okE (mC 168))) = true := by decide +kernel
set_option maxRecDepth 100000 in
theorem dk_169 : (md_169.2.2.2.all (okE (mC 169))) = true := by decide +kernel
set_option maxRecDepth 100000 in
theorem dk_170 : (md_170.2.2.2.all (okE (mC 170))) = true := by decide +kernel
set_option maxRecDepth 100000 in
theorem dk_171 : (md_171.2.2.2.all (okE (mC 171))) = true := by decide +kernel
set_option maxRecDepth 100000 in
theorem dk_172 : (md_172.2.2.2.all (okE (mC 172))) = true := by decide +kernel
set_option maxRecDepth 100000 in
theorem dk_173 : (md_173.2.2.2.all (okE (mC 173))) = true := by decide +kernel
set_option maxRecDepth 100000 in
theorem dk_174 : (md_174.2.2.2.all (okE (mC 174))) = true := by decide +kernel
set_option maxRecDepth 100000 in
theorem dk_175 : (md_175.2.2.2.all (okE (mC 175))) = true := by decide +kernel
set_option maxRecDepth 100000 in
theorem dk_176 : (md_176.2.2.2.all (okE (mC 176))) = true := by decide +kernel
set_option maxRecDepth 100000 in
theorem dk_177 : (md_177.2.2.2.all (okE (mC 177))) = true := by decide +kernel
set_option maxRecDepth 100000 in
theorem dk_178 : (md_178.2.2.2.all (okE (mC 178))) = true := by decide +kernel
set_option maxRecDepth 100000 in
theorem dk_179 : (md_179.2.2.2.all (okE (mC 179))) = true := by decide +kernel
set_option maxRecDepth 100000 in
theorem dk_180 : (md_180.2.2.2.all (okE (mC 180))) = true := by decide +kernel
set_option maxRecDepth 100000 in
theorem dk_181 : (md_181.2.2.2.all (okE (mC 181))) = true := by decide +kernel
set_option maxRecDepth 100000 in
theorem dk_182 : (md_182.2.2.2.all (okE (mC 182))) = true := by decide +kernel
set_option maxRecDepth 100000 in
theorem dk_183 : (md_183.2.2.2.all (okE (mC 183))) = true := by decide +kernel
set_option maxRecDepth 100000 in
theorem dk_184 : (md_184.2.2.2.all (okE (mC 184))) = true := by decide +kernel
set_option maxRecDepth 100000 in
theorem dk_185 : (md_185.2.2.2.all (okE (mC 185))) = true := by decide +kernel
set_option maxRecDepth 100000 in
theorem dk_186 : (md_186.2.2.2.all (okE (mC 186))) = true := by decide +kernel
set_option maxRecDepth 100000 in
theorem dk_187 : (md_187.2.2.2.all (okE (mC 187))) = true := by decide +kernel
set_option maxRecDepth 100000 in
theorem dk_188 : (md_188.2.2.2.all (okE (mC 188))) = true := by decide +kernel
set_option maxRecDepth 100000 in
theorem dk_189 : (md_189.2.2.2.all (okE (mC 189))) = true := by decide +kernel
set_option maxRecDepth 100000 in
theorem dk_190 : (md_190.2.2.2.all (okE (mC 190))) = true := by decide +kernel
set_option maxRecDepth 100000 in
theorem dk_191 : (md_191.2.2.2.all (okE (mC 191))) = true := by decide +kernel
set_option maxRecDepth 100000 in
theorem dk_192 : (md_192.2.2.2.all (okE (mC 192))) = true := by decide +kernel
set_option maxRecDepth 100000 in
theorem dk_193 : (md_193.2.2.2.all (okE (mC 193))) = true := by decide +kernel
set_option maxRecDepth 100000 in
theorem dk_194 : (md_194.2.2.2.all (okE (mC 194))) = true := by decide +kernel
set_option maxRecDepth 100000 in
theorem dk_195 : (md_195.2.2.2.all (okE (mC 195))) = true := by decide +kernel
set_option maxRecDepth 100000 in
theorem dk_196 : (md_196.2.2.2.all (okE (mC 196))) = true := by decide +kernel
set_option maxRecDepth 100000 in
theorem dk_197 : (md_197.2.2.2.all (okE (mC 197))) = true := by decide +kernel
set_option maxRecDepth 100000 in
theorem dk_198 : (md_198.2.2.2.all (okE (mC 198))) = true := by decide +kernel
set_option maxRecDepth 100000 in
theorem dk_199 : (md_199.2.2.2.all (okE (mC 199))) = true := by decide +kernel
set_option maxRecDepth 100000 in
theorem dk_200 : (md_200.2.2.2.all (okE (mC 200))) = true := by decide +kernel
set_option maxRecDepth 100000 in
theorem dk_201 : (md_201.2.2.2.all (okE (mC 201))) = true := by decide +kernel
set_option maxRecDepth 100000 in
theorem dk_202 : (md_202.2.2.2.all (okE (mC 202))) = true := by decide +kernel
set_option maxRecDepth 100000 in
theorem dk_203 : (md_203.2.2.2.all (okE (mC 203))) = true := by decide +kernel
set_option maxRecDepth 100000 in
theorem dk_204 : (md_204.2.2.2.all (okE (mC 204))) = true := by decide +kernel
set_option maxRecDepth 100000 in
theorem dk_205 : (md_205.2.2.2.all (okE (mC 205))) = true := by decide +kernel
set_option maxRecDepth 100000 in
theorem dk_206 : (md_206.2.2.2.all (okE (mC 206))) = true := by decide +kernel
set_option maxRecDepth 100000 in
theorem dk_207 : (md_207.2.2.2.all (okE (mC 207))) = true := by decide +kernel
set_option maxRecDepth 100000 in
theorem dk_208 : (md_208.2.2.2.all (okE (mC 208))) = true := by decide +kernel
set_option maxRecDepth 100000 in
theorem dk_209 : (md_209.2.2.2.all (okE (mC 209))) = true := by decide +kernel
set_option maxRecDepth 100000 in
theorem dk_210 : (md_210.2.2.2.all (okE (mC 210))) = true := by decide +kernel
set_option maxRecDepth 100000 in
theorem dk_211 : (md_211.2.2.2.all (okE (mC 211))) = true := by decide +kernel
set_option maxRecDepth 100000 in
theorem dk_212 : (md_212.2.2.2.all (okE (mC 212))) = true := by decide +kernel
set_option maxRecDepth 100000 in
theorem dk_213 : (md_213.2.2.2.all (okE (mC 213))) = true := by decide +kernel
set_option maxRecDepth 100000 in
theorem dk_214 : (md_214.2.2.2.all (okE (mC 214))) = true := by decide +kernel
set_option maxRecDepth 100000 in
theorem dk_215 : (md_215.2.2.2.all (okE (mC 215))) = true := by decide +kernel
set_option maxRecDepth 100000 in
theorem dk_216 : (md_216.2.2.2.all (okE (mC 216))) = true := by decide +kernel
set_option maxRecDepth 100000 in
theorem dk_217 : (md_217.2.2.2.all (okE (mC 217))) = true := by decide +kernel
set_option maxRecDepth 100000 in
theorem dk_218 : (md_218.2.2.2.all (okE (mC 218))) = true := by decide +kernel
set_option maxRecDepth 100000 in
theorem dk_219 : (md_219.2.2.2.all (okE (mC 219))) = true := by decide +kernel
set_option maxRecDepth 100000 in
theorem dk_220 : (md_220.2.2.2.all (okE (mC 220))) = true := by decide +kernel
set_option maxRecDepth 100000 in
theorem dk_221 : (md_221.2.2.2.all (okE (mC 221))) = true := by decide +kernel
set_option maxRecDepth 100000 in
theorem dk_222 : (md_222.2.2.2.all (okE (mC 222))) = true := by decide +kernel
set_option maxRecDepth 100000 in
theorem dk_223 : (md_223.2.2.2.all (okE (mC 223))) = true := by decide +kernel
set_option maxRecDepth 100000 in
theorem dk_224 : (md_224.2.2.2.all (okE (mC 224))) = true := by decide +kernel
set_option maxRecDepth 100000 in
theorem dk_225 : (md_225.2.2.2.all (okE (mC 225))) = true := by decide +kernel
set_option maxRecDepth 100000 in
theorem dk_226 : (md_226.2.2.2.all (okE (mC 226))) = true := by decide +kernel
set_option maxRecDepth 100000 in
theorem dk_227 : (md_227.2.2.2.all (okE (mC 227))) = true := by decide +kernel
set_option maxRecDepth 100000 in
theorem dk_228 : (md_228.2.2.2.all (okE (mC 228))) = true := by decide +kernel
set_option maxRecDepth 100000 in
theorem dk_229 : (md_229.2.2.2.all (okE (mC 229))) = true := by decide +kernel
set_option maxRecDepth 100000 in
theorem dk_230 : (md_230.2.2.2.all (okE (mC 230))) = true := by decide +kernel
set_option maxRecDepth 100000 in
theorem dk_231 : (md_231.2.2.2.all (okE (mC 231))) = true := by decide +kernel
set_option maxRecDepth 100000 in
theorem dk_232 : (md_232.2.2.2.all (okE (mC 232))) = true := by decide +kernel
set_option maxRecDepth 100000 in
theorem dk_233 : (md_233.2.2.2.all (okE (mC 233))) = true := by decide +kernel
set_option maxRecDepth 100000 in
theorem dk_234 : (md_234.2.2.2.all (okE (mC 234))) = true := by decide +kernel
set_option maxRecDepth 100000 in
theorem dk_235 : (md_235.2.2.2.all (okE (mC 235))) = true := by decide +kernel
set_option maxRecDepth 100000 in
theorem dk_236 : (md_236.2.2.2.all (okE (mC 236))) = true := by decide +kernel
set_option maxRecDepth 100000 in
theorem dk_237 : (md_237.2.2.2.all (okE (mC 237))) = true := by decide +kernel
set_option maxRecDepth 100000 in
theorem dk_238 : (md_238.2.2.2.all (okE (mC 238))) = true := by decide +kernel
set_option maxRecDepth 100000 in
theorem dk_239 : (md_239.2.2.2.all (okE (mC 239))) = true := by decide +kernel
set_option maxRecDepth 100000 in
theorem dk_240 : (md_240.2.2.2.all (okE (mC 240))) = true := by decide +kernel
set_option maxRecDepth 100000 in
theorem dk_241 : (md_241.2.2.2.all (okE (mC 241))) = true := by decide +kernel
set_option maxRecDepth 100000 in
theorem dk_242 : (md_242.2.2.2.all (okE (mC 242))) = true := by decide +kernel
set_option maxRecDepth 100000 in
theorem dk_243 : (md_243.2.2.2.all (okE (mC 243))) = true := by decide +kernel
set_option maxRecDepth 100000 in
theorem dk_244 : (md_244.2.2.2.all (okE (mC 244))) = true := by decide +kernel
set_option maxRecDepth 100000 in
theorem dk_245 : (md_245.2.2.2.all (okE (mC 245))) = true := by decide +kernel
set_option maxRecDepth 100000 in
theorem dk_246 : (md_246.2.2.2.all (okE (mC 246))) = true := by decide +kernel
set_option maxRecDepth 100000 in
theorem dk_247 : (md_247.2.2.2.all (okE (mC 247))) = true := by decide +kernel
set_option maxRecDepth 100000 in
theorem dk_248 : (md_248.2.2.2.all (okE (mC 248))) = true := by decide +kernel
set_option maxRecDepth 100000 in
theorem dk_249 : (md_249.2.2.2.all (okE (mC 249))) = true := by decide +kernel
set_option maxRecDepth 100000 in
theorem dk_250_0 : (((md_250.2.2.2.drop 0).take 100).all (okE (mC 250))) = true := by decide +kernel
set_option maxRecDepth 100000 in
theorem dk_250_100 : (((md_250.2.2.2.drop 100).take 100).all (okE (mC 250))) = true := by decide +kernel
theorem dk_250 : (md_250.2.2.2.all (okE (mC 250))) = true := all_cut (l := md_250.2.2.2) (i := 0) 100 dk_250_0 (all_cut (l := md_250.2.2.2) (i := 100) 100 dk_250_100 (by decide +kernel))
set_option maxRecDepth 100000 in
theorem dk_251 : (md_251.2.2.2.all (okE (mC 251))) = true := by decide +kernel
set_option maxRecDepth 100000 in
theorem dk_252 : (md_252.2.2.2.all (okE (mC 252))) = true := by decide +kernel
set_option maxRecDepth 100000 in
theorem dk_253 : (md_253.2.2.2.all (okE (mC 253))) = true := by decide +kernel
set_option maxRecDepth 100000 in
theorem dk_254 : (md_254.2.2.2.all (okE (mC 254))) = true := by decide +kernel
set_option maxRecDepth 100000 in
theorem dk_255 : (md_255.2.2.2.all (okE (mC 255))) = true := by decide +kernel
set_option maxRecDepth 100000 in
theorem dk_256 : (md_256.2.2.2.all (okE (mC 256))) = true := by decide +kernel
set_option maxRecDepth 100000 in
theorem dk_257 : (md_257.2.2.2.all (okE (mC 257))) = true := by decide +kernel
set_option maxRecDepth 100000 in
theorem dk_258 : (md_258.2.2.2.all (okE (mC 258))) = true := by decide +kernel
set_option maxRecDepth 100000 in
theorem dk_259 : (md_259.2.2.2.all (okE (mC 259))) = true := by decide +kernel
set_option maxRecDepth 100000 in
theorem dk_260 : (md_260.2.2.2.all (okE (mC 260))) = true := by decide +kernel
set_option maxRecDepth 100000 in
theorem dk_261 : (md_261.2.2.2.all (okE (mC 261))) = true := by decide +kernel
set_option maxRecDepth 100000 in
theorem dk_262 : (md_262.2.2.2.all (okE (mC 262))) = true := by decide +kernel
set_option maxRecDepth 100000 in
theorem dk_263 : (md_263.2.2.2.all (okE (mC 263))) = true := by decide +kernel
set_option maxRecDepth 100000 in
theorem dk_264 : (md_264.2.2.2.all (okE (mC 264))) = true := by decide +kernel
set_option maxRecDepth 100000 in
theorem dk_265 : (md_265.2.2.2.all (okE (mC 265))) = true := by decide +kernel
set_option maxRecDepth 100000 in
theorem dk_266 : (md_266.2.2.2.all (okE (mC 266))) = true := by decide +kernel
set_option maxRecDepth 100000 in
theorem dk_267 : (md_267.2.2.2.all (okE (mC 267))) = true := by decide +kernel
set_option maxRecDepth 100000 in
theorem dk_268_0 : (((md_268.2.2.2.drop 0).take 100).all (okE (mC 268))) = true := by decide +kernel
set_option maxRecDepth 100000 in
theorem dk_268_100 : (((md_268.2.2.2.drop 100).take 100).all (okE (mC 268))) = true := by decide +kernel
set_option maxRecDepth 100000 in
theorem dk_268_200 : (((md_268.2.2.2.drop 200).take 100).all (okE (mC 268))) = true := by decide +kernel
set_option maxRecDepth 100000 in
theorem dk_268_300 : (((md_268.2.2.2.drop 300).take 100).all (okE (mC 268))) = true := by decide +kernel
set_option maxRecDepth 100000 in
theorem dk_268_400 : (((md_268.2.2.2.drop 400).take 100).all (okE (mC 268))) = true := by decide +kernel
set_option maxRecDepth 100000 in
theorem dk_268_500 : (((md_268.2.2.2.drop 500).take 100).all (okE (mC 268))) = true := by decide +kernel
set_option maxRecDepth 100000 in
theorem dk_268_600 : (((md_268.2.2.2.drop 600).take 100).all (okE (mC 268))) = true := by decide +kernel
set_option maxRecDepth 100000 in
theorem dk_268_700 : (((md_268.2.2.2.drop 700).take 100).all (okE (mC 268))) = true := by decide +kernel
set_option maxRecDepth 100000 in
theorem dk_268_800 : (((md_268.2.2.2.drop 800).take 100).all (okE (mC 268))) = true := by decide +kernel
set_option maxRecDepth 100000 in
theorem dk_268_900 : (((md_268.2.2.2.drop 900).take 100).all (okE (mC 268))) = true := by decide +kernel
theorem dk_268 : (md_268.2.2.2.all (okE (mC 268))) = true := all_cut (l := md_268.2.2.2) (i := 0) 100 dk_268_0 (all_cut (l := md_268.2.2.2) (i := 100) 100 dk_268_100 (all_cut (l := md_268.2.2.2) (i := 200) 100 dk_268_200 (all_cut (l := md_268.2.2.2) (i := 300) 100 dk_268_300 (all_cut (l := md_268.2.2.2) (i := 400) 100 dk_268_400 (all_cut (l := md_268.2.2.2) (i := 500) 100 dk_268_500 (all_cut (l := md_268.2.2.2) (i := 600) 100 dk_268_600 (all_cut (l := md_268.2.2.2) (i := 700) 100 dk_268_700 (all_cut (l := md_268.2.2.2) (i := 800) 100 dk_268_800 (all_cut (l := md_268.2.2.2) (i := 900) 100 dk_268_900 (by decide +kernel))))))))))
theorem dka_0 : ∀ q ∈ mth_0, (q.2.2.2.2.all (okE (mC q.1))) = true := List.forall_mem_cons.mpr ⟨dk_0, List.forall_mem_cons.mpr ⟨dk_1, List.forall_mem_cons.mpr ⟨dk_2, List.forall_mem_cons.mpr ⟨dk_3, List.forall_mem_cons.mpr ⟨dk_4, List.forall_mem_cons.mpr ⟨dk_5, List.forall_mem_cons.mpr ⟨dk_6, List.forall_mem_cons.mpr ⟨dk_7, List.forall_mem_cons.mpr ⟨dk_8, List.forall_mem_cons.mpr ⟨dk_9, List.forall_mem_cons.mpr ⟨dk_10, List.forall_mem_cons.mpr ⟨dk_11, List.forall_mem_cons.mpr ⟨dk_12, List.forall_mem_cons.mpr ⟨dk_13, List.forall_mem_cons.mpr ⟨dk_14, List.forall_mem_cons.mpr ⟨dk_15, List.forall_mem_cons.mpr ⟨dk_16, List.forall_mem_cons.mpr ⟨dk_17, List.forall_mem_cons.mpr ⟨dk_18, List.forall_mem_cons.mpr ⟨dk_19, List.forall_mem_cons.mpr ⟨dk_20, List.forall_mem_cons.mpr ⟨dk_21, List.forall_mem_cons.mpr ⟨dk_22, List.forall_mem_cons.mpr ⟨dk_23, List.forall_mem_cons.mpr ⟨dk_24, List.forall_mem_cons.mpr ⟨dk_25, List.forall_mem_cons.mpr ⟨dk_26, List.forall_mem_cons.mpr ⟨dk_27, List.forall_mem_cons.mpr ⟨dk_28, List.forall_mem_cons.mpr ⟨dk_29, fun _ h => absurd h List.not_mem_nil⟩⟩⟩⟩⟩⟩⟩⟩⟩⟩⟩⟩⟩⟩⟩⟩⟩⟩⟩⟩⟩⟩⟩⟩⟩⟩⟩⟩⟩⟩
theorem dka_1 : ∀ q ∈ mth_1, (q.2.2.2.2.all (okE (mC q.1))) = true := List.forall_mem_cons.mpr ⟨dk_30, List.forall_mem_cons.mpr ⟨dk_31, List.forall_mem_cons.mpr ⟨dk_32, List.forall_mem_cons.mpr ⟨dk_33, List.forall_mem_cons.mpr ⟨dk_34, List.forall_mem_cons.mpr ⟨dk_35, List.forall_mem_cons.mpr ⟨dk_36, List.forall_mem_cons.mpr ⟨dk_37, List.forall_mem_cons.mpr ⟨dk_38, List.forall_mem_cons.mpr ⟨dk_39, List.forall_mem_cons.mpr ⟨dk_40, List.forall_mem_cons.mpr ⟨dk_41, List.forall_mem_cons.mpr ⟨dk_42, List.forall_mem_cons.mpr ⟨dk_43, List.forall_mem_cons.mpr ⟨dk_44, List.forall_mem_cons.mpr ⟨dk_45, List.forall_mem_cons.mpr ⟨dk_46, List.forall_mem_cons.mpr ⟨dk_47, List.forall_mem_cons.mpr ⟨dk_48, List.forall_mem_cons.mpr ⟨dk_49, List.forall_mem_cons.mpr ⟨dk_50, List.forall_mem_cons.mpr ⟨dk_51, List.forall_mem_cons.mpr ⟨dk_52, List.forall_mem_cons.mpr ⟨dk_53, List.forall_mem_cons.mpr ⟨dk_54, List.forall_mem_cons.mpr ⟨dk_55, List.forall_mem_cons.mpr ⟨dk_56, List.forall_mem_cons.mpr ⟨dk_57, List.forall_mem_cons.mpr ⟨dk_58, List.forall_mem_cons.mpr ⟨dk_59, fun _ h => absurd h List.not_mem_nil⟩⟩⟩⟩⟩⟩⟩⟩⟩⟩⟩⟩⟩⟩⟩⟩⟩⟩⟩⟩⟩⟩⟩⟩⟩⟩⟩⟩⟩⟩
theorem dka_2 : ∀ q ∈ mth_2, (q.2.2.2.2.all (okE (mC q.1))) = true := List.forall_mem_cons.mpr ⟨dk_60, List.forall_mem_cons.mpr ⟨dk_61, List.forall_mem_cons.mpr ⟨dk_62, List.forall_mem_cons.mpr ⟨dk_63, List.forall_mem_cons.mpr ⟨dk_64, List.forall_mem_cons.mpr ⟨dk_65, List.forall_mem_cons.mpr ⟨dk_66, List.forall_mem_cons.mpr ⟨dk_67, List.forall_mem_cons.mpr ⟨dk_68, List.forall_mem_cons.mpr ⟨dk_69, List.forall_mem_cons.mpr ⟨dk_70, List.forall_mem_cons.mpr ⟨dk_71, List.forall_mem_cons.mpr ⟨dk_72, List.forall_mem_cons.mpr ⟨dk_73, List.forall_mem_cons.mpr ⟨dk_74, List.forall_mem_cons.mpr ⟨dk_75, List.forall_mem_cons.mpr ⟨dk_76, List.forall_mem_cons.mpr ⟨dk_77, List.forall_mem_cons.mpr ⟨dk_78, List.forall_mem_cons.mpr ⟨dk_79, List.forall_mem_cons.mpr ⟨dk_80, List.forall_mem_cons.mpr ⟨dk_81, List.forall_mem_cons.mpr ⟨dk_82, List.forall_mem_cons.mpr ⟨dk_83, List.forall_mem_cons.mpr ⟨dk_84, List.forall_mem_cons.mpr ⟨dk_85, List.forall_mem_cons.mpr ⟨dk_86, List.forall_mem_cons.mpr ⟨dk_87, List.forall_mem_cons.mpr ⟨dk_88, List.forall_mem_cons.mpr ⟨dk_89, fun _ h => absurd h List.not_mem_nil⟩⟩⟩⟩⟩⟩⟩⟩⟩⟩⟩⟩⟩⟩⟩⟩⟩⟩⟩⟩⟩⟩⟩⟩⟩⟩⟩⟩⟩⟩
theorem dka_3 : ∀ q ∈ mth_3, (q.2.2.2.2.all (okE (mC q.1))) = true := List.forall_mem_cons.mpr ⟨dk_90, List.forall_mem_cons.mpr ⟨dk_91, List.forall_mem_cons.mpr ⟨dk_92, List.forall_mem_cons.mpr ⟨dk_93, List.forall_mem_cons.mpr ⟨dk_94, List.forall_mem_cons.mpr ⟨dk_95, List.forall_mem_cons.mpr ⟨dk_96, List.forall_mem_cons.mpr ⟨dk_97, List.forall_mem_cons.mpr ⟨dk_98, List.forall_mem_cons.mpr ⟨dk_99, List.forall_mem_cons.mpr ⟨dk_100, List.forall_mem_cons.mpr ⟨dk_101, List.forall_mem_cons.mpr ⟨dk_102, List.forall_mem_cons.mpr ⟨dk_103, List.forall_mem_cons.mpr ⟨dk_104, List.forall_mem_cons.mpr ⟨dk_105, List.forall_mem_cons.mpr ⟨dk_106, List.forall_mem_cons.mpr ⟨dk_107, List.forall_mem_cons.mpr ⟨dk_108, List.forall_mem_cons.mpr ⟨dk_109, List.forall_mem_cons.mpr ⟨dk_110, List.forall_mem_cons.mpr ⟨dk_111, List.forall_mem_cons.mpr ⟨dk_112, List.forall_mem_cons.mpr ⟨dk_113, List.forall_mem_cons.mpr ⟨dk_114, List.forall_mem_cons.mpr ⟨dk_115, List.forall_mem_cons.mpr ⟨dk_116, List.forall_mem_cons.mpr ⟨dk_117, List.forall_mem_cons.mpr ⟨dk_118, List.forall_mem_cons.mpr ⟨dk_119, fun _ h => absurd h List.not_mem_nil⟩⟩⟩⟩⟩⟩⟩⟩⟩⟩⟩⟩⟩⟩⟩⟩⟩⟩⟩⟩⟩⟩⟩⟩⟩⟩⟩⟩⟩⟩
theorem dka_4 : ∀ q ∈ mth_4, (q.2.2.2.2.all (okE (mC q.1))) = true := List.forall_mem_cons.mpr ⟨dk_120, List.forall_mem_cons.mpr ⟨dk_121, List.forall_mem_cons.mpr ⟨dk_122, List.forall_mem_cons.mpr ⟨dk_123, List.forall_mem_cons.mpr ⟨dk_124, List.forall_mem_cons.mpr ⟨dk_125, List.forall_mem_cons.mpr ⟨dk_126, List.forall_mem_cons.mpr ⟨dk_127, List.forall_mem_cons.mpr ⟨dk_128, List.forall_mem_cons.mpr ⟨dk_129, List.forall_mem_cons.mpr ⟨dk_130, List.forall_mem_cons.mpr ⟨dk_131, List.forall_mem_cons.mpr ⟨dk_132, List.forall_mem_cons.mpr ⟨dk_133, List.forall_mem_cons.mpr ⟨dk_134, List.forall_mem_cons.mpr ⟨dk_135, List.forall_mem_cons.mpr ⟨dk_136, List.forall_mem_cons.mpr ⟨dk_137, List.forall_mem_cons.mpr ⟨dk_138, List.forall_mem_cons.mpr ⟨dk_139, List.forall_mem_cons.mpr ⟨dk_140, List.forall_mem_cons.mpr ⟨dk_141, List.forall_mem_cons.mpr ⟨dk_142, List.forall_mem_cons.mpr ⟨dk_143, List.forall_mem_cons.mpr ⟨dk_144, List.forall_mem_cons.mpr ⟨dk_145, List.forall_mem_cons.mpr ⟨dk_146, List.forall_mem_cons.mpr ⟨dk_147, List.forall_mem_cons.mpr ⟨dk_148, List.forall_mem_cons.mpr ⟨dk_149, fun _ h => absurd h List.not_mem_nil⟩⟩⟩⟩⟩⟩⟩⟩⟩⟩⟩⟩⟩⟩⟩⟩⟩⟩⟩⟩⟩⟩⟩⟩⟩⟩⟩⟩⟩⟩
theorem dka_5 : ∀ q ∈ mth_5, (q.2.2.2.2.all (okE (mC q.1))) = true := List.forall_mem_cons.mpr ⟨dk_150, List.forall_mem_cons.mpr ⟨dk_151, List.forall_mem_cons.mpr ⟨dk_152, List.forall_mem_cons.mpr ⟨dk_153, List.forall_mem_cons.mpr ⟨dk_154, List.forall_mem_cons.mpr ⟨dk_155, List.forall_mem_cons.mpr ⟨dk_156, List.forall_mem_cons.mpr ⟨dk_157, List.forall_mem_cons.mpr ⟨dk_158, List.forall_mem_cons.mpr ⟨dk_159, List.forall_mem_cons.mpr ⟨dk_160, List.forall_mem_cons.mpr ⟨dk_161, List.forall_mem_cons.mpr ⟨dk_162, List.forall_mem_cons.mpr ⟨dk_163, List.forall_mem_cons.mpr ⟨dk_164, List.forall_mem_cons.mpr ⟨dk_165, List.forall_mem_cons.mpr ⟨dk_166, List.forall_mem_cons.mpr ⟨dk_167, List.forall_mem_cons.mpr ⟨dk_168, List.forall_mem_cons.mpr ⟨dk_169, List.forall_mem_cons.mpr ⟨dk_170, List.forall_mem_cons.mpr ⟨dk_171, List.forall_mem_cons.mpr ⟨dk_172, List.forall_mem_cons.mpr ⟨dk_173, List.forall_mem_cons.mpr ⟨dk_174, List.forall_mem_cons.mpr ⟨dk_175, List.forall_mem_cons.mpr ⟨dk_176, List.forall_mem_cons.mpr ⟨dk_177, List.forall_mem_cons.mpr ⟨dk_178, List.forall_mem_cons.mpr ⟨dk_179, fun _ h => absurd h List.not_mem_nil⟩⟩⟩⟩⟩⟩⟩⟩⟩⟩⟩⟩⟩⟩⟩⟩⟩⟩⟩⟩⟩⟩⟩⟩⟩⟩⟩⟩⟩⟩
theorem dka_6 : ∀ q ∈ mth_6, (q.2.2.2.2.all (okE (mC q.1))) = true := List.forall_mem_cons.mpr ⟨dk_180, List.forall_mem_cons.mpr ⟨dk_181, List.forall_mem_cons.mpr ⟨dk_182, List.forall_mem_cons.mpr ⟨dk_183, List.forall_mem_cons.mpr ⟨dk_184, List.forall_mem_cons.mpr ⟨dk_185, List.forall_mem_cons.mpr ⟨dk_186, List.forall_mem_cons.mpr ⟨dk_187, List.forall_mem_cons.mpr ⟨dk_188, List.forall_mem_cons.mpr ⟨dk_189, List.forall_mem_cons.mpr ⟨dk_190, List.forall_mem_cons.mpr ⟨dk_191, List.forall_mem_cons.mpr ⟨dk_192, List.forall_mem_cons.mpr ⟨dk_193, List.forall_mem_cons.mpr ⟨dk_194, List.forall_mem_cons.mpr ⟨dk_195, List.forall_mem_cons.mpr ⟨dk_196, List.forall_mem_cons.mpr ⟨dk_197, List.forall_mem_cons.mpr ⟨dk_198, List.forall_mem_cons.mpr ⟨dk_199, List.forall_mem_cons.mpr ⟨dk_200, List.forall_mem_cons.mpr ⟨dk_201, List.forall_mem_cons.mpr ⟨dk_202, List.forall_mem_cons.mpr ⟨dk_203, List.forall_mem_cons.mpr ⟨dk_204, List.forall_mem_cons.mpr ⟨dk_205, List.forall_mem_cons.mpr ⟨dk_206, List.forall_mem_cons.mpr ⟨dk_207, List.forall_mem_cons.mpr ⟨dk_208, List.forall_mem_cons.mpr ⟨dk_209, fun _ h => absurd h List.not_mem_nil⟩⟩⟩⟩⟩⟩⟩⟩⟩⟩⟩⟩⟩⟩⟩⟩⟩⟩⟩⟩⟩⟩⟩⟩⟩⟩⟩⟩⟩⟩
theorem dka_7 : ∀ q ∈ mth_7, (q.2.2.2.2.all (okE (mC q.1))) = true := List.forall_mem_cons.mpr ⟨dk_210, List.forall_mem_cons.mpr ⟨dk_211, List.forall_mem_cons.mpr ⟨dk_212, List.forall_mem_cons.mpr ⟨dk_213, List.forall_mem_cons.mpr ⟨dk_214, List.forall_mem_cons.mpr ⟨dk_215, List.forall_mem_cons.mpr ⟨dk_216, List.forall_mem_cons.mpr ⟨dk_217, List.forall_mem_cons.mpr ⟨dk_218, List.forall_mem_cons.mpr ⟨dk_219, List.forall_mem_cons.mpr ⟨dk_220, List.forall_mem_cons.mpr ⟨dk_221, List.forall_mem_cons.mpr ⟨dk_222, List.forall_mem_cons.mpr ⟨dk_223, List.forall_mem_cons.mpr ⟨dk_224, List.forall_mem_cons.mpr ⟨dk_225, List.forall_mem_cons.mpr ⟨dk_226, List.forall_mem_cons.mpr ⟨dk_227, List.forall_mem_cons.mpr ⟨dk_228, List.forall_mem_cons.mpr ⟨dk_229, List.forall_mem_cons.mpr ⟨dk_230, List.forall_mem_cons.mpr ⟨dk_231, List.forall_mem_cons.mpr ⟨dk_232, List.forall_mem_cons.mpr ⟨dk_233, List.forall_mem_cons.mpr ⟨dk_234, List.forall_mem_cons.mpr ⟨dk_235, List.forall_mem_cons.mpr ⟨dk_236, List.forall_mem_cons.mpr ⟨dk_237, List.forall_mem_cons.mpr ⟨dk_238, List.forall_mem_cons.mpr ⟨dk_239, fun _ h => absurd h List.not_mem_nil⟩⟩⟩⟩⟩⟩⟩⟩⟩⟩⟩⟩⟩⟩⟩⟩⟩⟩⟩⟩⟩⟩⟩⟩⟩⟩⟩⟩⟩⟩
theorem dka_8 : ∀ q ∈ mth_8, (q.2.2.2.2.all (okE (mC q.1))) = true := List.forall_mem_cons.mpr ⟨dk_240, List.forall_mem_cons.mpr ⟨dk_241, List.forall_mem_cons.mpr ⟨dk_242, List.forall_mem_cons.mpr ⟨dk_243, List.forall_mem_cons.mpr ⟨dk_244, List.forall_mem_cons.mpr ⟨dk_245, List.forall_mem_cons.mpr ⟨dk_246, List.forall_mem_cons.mpr ⟨dk_247, List.forall_mem_cons.mpr ⟨dk_248, List.forall_mem_cons.mpr ⟨dk_249, List.forall_mem_cons.mpr ⟨dk_250, List.forall_mem_cons.mpr ⟨dk_251, List.forall_mem_cons.mpr ⟨dk_252, List.forall_mem_cons.mpr ⟨dk_253, List.forall_mem_cons.mpr ⟨dk_254, List.forall_mem_cons.mpr ⟨dk_255, List.forall_mem_cons.mpr ⟨dk_256, List.forall_mem_cons.mpr ⟨dk_257, List.forall_mem_cons.mpr ⟨dk_258, List.forall_mem_cons.mpr ⟨dk_259, List.forall_mem_cons.mpr ⟨dk_260, List.forall_mem_cons.mpr ⟨dk_261, List.forall_mem_cons.mpr ⟨dk_262, List.forall_mem_cons.mpr ⟨dk_263, List.forall_mem_cons.mpr ⟨dk_264, List.forall_mem_cons.mpr ⟨dk_265, List.forall_mem_cons.mpr ⟨dk_266, List.forall_mem_cons.mpr ⟨dk_267, List.forall_mem_cons.mpr ⟨dk_268, fun _ h => absurd h List.not_mem_nil⟩⟩⟩⟩⟩⟩⟩⟩⟩⟩⟩⟩⟩⟩⟩⟩⟩⟩⟩⟩⟩⟩⟩⟩⟩⟩⟩⟩⟩
theorem dk_all : ∀ q ∈ meths, (q.2.2.2.2.all (okE (mC q.1))) = true := by
  unfold meths
  exact List.forall_mem_append.mpr ⟨dka_0, List.forall_mem_append.mpr ⟨dka_1, List.forall_mem_append.mpr ⟨dka_2, List.forall_mem_append.mpr ⟨dka_3, List.forall_mem_append.mpr ⟨dka_4, List.forall_mem_append.mpr ⟨dka_5, List.forall_mem_append.mpr ⟨dka_6, List.forall_mem_append.mpr ⟨dka_7, dka_8⟩⟩⟩⟩⟩⟩⟩⟩
