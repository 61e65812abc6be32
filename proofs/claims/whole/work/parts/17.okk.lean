theorem xkA0 : ∀ g, g < 16 → xokG 0 g = true
  | 0, _ => xk0_0
  | 1, _ => xk0_1
  | 2, _ => xk0_2
  | 3, _ => xk0_3
  | 4, _ => xk0_4
  | 5, _ => xk0_5
  | 6, _ => xk0_6
  | 7, _ => xk0_7
  | 8, _ => xk0_8
  | 9, _ => xk0_9
  | 10, _ => xk0_10
  | 11, _ => xk0_11
  | 12, _ => xk0_12
  | 13, _ => xk0_13
  | 14, _ => xk0_14
  | 15, _ => xk0_15
  | g + 16, h => absurd h (by omega)
theorem xkA1 : ∀ g, g < 1 → xokG 1 g = true
  | 0, _ => xk1_0
  | g + 1, h => absurd h (by omega)
theorem xkA2 : ∀ g, g < 1 → xokG 2 g = true
  | 0, _ => xk2_0
  | g + 1, h => absurd h (by omega)
theorem xkA3 : ∀ g, g < 2 → xokG 3 g = true
  | 0, _ => xk3_0
  | 1, _ => xk3_1
  | g + 2, h => absurd h (by omega)
theorem xkA4 : ∀ g, g < 1 → xokG 4 g = true
  | 0, _ => xk4_0
  | g + 1, h => absurd h (by omega)
theorem xkA5 : ∀ g, g < 1 → xokG 5 g = true
  | 0, _ => xk5_0
  | g + 1, h => absurd h (by omega)
theorem xkA6 : ∀ g, g < 2 → xokG 6 g = true
  | 0, _ => xk6_0
  | 1, _ => xk6_1
  | g + 2, h => absurd h (by omega)
theorem xkA7 : ∀ g, g < 1 → xokG 7 g = true
  | 0, _ => xk7_0
  | g + 1, h => absurd h (by omega)
theorem xkA8 : ∀ g, g < 1 → xokG 8 g = true
  | 0, _ => xk8_0
  | g + 1, h => absurd h (by omega)
theorem xkA9 : ∀ g, g < 1 → xokG 9 g = true
  | 0, _ => xk9_0
  | g + 1, h => absurd h (by omega)
theorem xkA10 : ∀ g, g < 1 → xokG 10 g = true
  | 0, _ => xk10_0
  | g + 1, h => absurd h (by omega)
theorem xkA11 : ∀ g, g < 1 → xokG 11 g = true
  | 0, _ => xk11_0
  | g + 1, h => absurd h (by omega)
theorem xkA12 : ∀ g, g < 2 → xokG 12 g = true
  | 0, _ => xk12_0
  | 1, _ => xk12_1
  | g + 2, h => absurd h (by omega)
theorem xkA13 : ∀ g, g < 1 → xokG 13 g = true
  | 0, _ => xk13_0
  | g + 1, h => absurd h (by omega)
theorem xkA14 : ∀ g, g < 1 → xokG 14 g = true
  | 0, _ => xk14_0
  | g + 1, h => absurd h (by omega)
theorem xkA15 : ∀ g, g < 1 → xokG 15 g = true
  | 0, _ => xk15_0
  | g + 1, h => absurd h (by omega)
theorem xkA16 : ∀ g, g < 1 → xokG 16 g = true
  | 0, _ => xk16_0
  | g + 1, h => absurd h (by omega)
theorem xkA17 : ∀ g, g < 1 → xokG 17 g = true
  | 0, _ => xk17_0
  | g + 1, h => absurd h (by omega)
theorem xkA18 : ∀ g, g < 1 → xokG 18 g = true
  | 0, _ => xk18_0
  | g + 1, h => absurd h (by omega)
theorem xkA19 : ∀ g, g < 1 → xokG 19 g = true
  | 0, _ => xk19_0
  | g + 1, h => absurd h (by omega)
theorem xkA20 : ∀ g, g < 2 → xokG 20 g = true
  | 0, _ => xk20_0
  | 1, _ => xk20_1
  | g + 2, h => absurd h (by omega)
theorem xkA21 : ∀ g, g < 1 → xokG 21 g = true
  | 0, _ => xk21_0
  | g + 1, h => absurd h (by omega)
theorem xkA22 : ∀ g, g < 1 → xokG 22 g = true
  | 0, _ => xk22_0
  | g + 1, h => absurd h (by omega)
theorem xkA23 : ∀ g, g < 1 → xokG 23 g = true
  | 0, _ => xk23_0
  | g + 1, h => absurd h (by omega)
theorem xkA24 : ∀ g, g < 1 → xokG 24 g = true
  | 0, _ => xk24_0
  | g + 1, h => absurd h (by omega)
theorem xkA25 : ∀ g, g < 1 → xokG 25 g = true
  | 0, _ => xk25_0
  | g + 1, h => absurd h (by omega)
theorem xkA26 : ∀ g, g < 1 → xokG 26 g = true
  | 0, _ => xk26_0
  | g + 1, h => absurd h (by omega)
theorem xkA27 : ∀ g, g < 1 → xokG 27 g = true
  | 0, _ => xk27_0
  | g + 1, h => absurd h (by omega)
theorem xkA28 : ∀ g, g < 1 → xokG 28 g = true
  | 0, _ => xk28_0
  | g + 1, h => absurd h (by omega)
theorem xkA29 : ∀ g, g < 1 → xokG 29 g = true
  | 0, _ => xk29_0
  | g + 1, h => absurd h (by omega)
theorem xkA30 : ∀ g, g < 1 → xokG 30 g = true
  | 0, _ => xk30_0
  | g + 1, h => absurd h (by omega)
theorem xkA31 : ∀ g, g < 2 → xokG 31 g = true
  | 0, _ => xk31_0
  | 1, _ => xk31_1
  | g + 2, h => absurd h (by omega)
theorem xkA32 : ∀ g, g < 1 → xokG 32 g = true
  | 0, _ => xk32_0
  | g + 1, h => absurd h (by omega)
theorem xkA33 : ∀ g, g < 1 → xokG 33 g = true
  | 0, _ => xk33_0
  | g + 1, h => absurd h (by omega)
theorem xkA34 : ∀ g, g < 1 → xokG 34 g = true
  | 0, _ => xk34_0
  | g + 1, h => absurd h (by omega)
theorem xkA35 : ∀ g, g < 1 → xokG 35 g = true
  | 0, _ => xk35_0
  | g + 1, h => absurd h (by omega)
theorem xkA36 : ∀ g, g < 1 → xokG 36 g = true
  | 0, _ => xk36_0
  | g + 1, h => absurd h (by omega)
theorem xkA37 : ∀ g, g < 1 → xokG 37 g = true
  | 0, _ => xk37_0
  | g + 1, h => absurd h (by omega)
theorem xkA38 : ∀ g, g < 1 → xokG 38 g = true
  | 0, _ => xk38_0
  | g + 1, h => absurd h (by omega)
theorem xkA39 : ∀ g, g < 1 → xokG 39 g = true
  | 0, _ => xk39_0
  | g + 1, h => absurd h (by omega)
theorem xkA40 : ∀ g, g < 2 → xokG 40 g = true
  | 0, _ => xk40_0
  | 1, _ => xk40_1
  | g + 2, h => absurd h (by omega)
theorem xkA41 : ∀ g, g < 1 → xokG 41 g = true
  | 0, _ => xk41_0
  | g + 1, h => absurd h (by omega)
theorem xkA42 : ∀ g, g < 2 → xokG 42 g = true
  | 0, _ => xk42_0
  | 1, _ => xk42_1
  | g + 2, h => absurd h (by omega)
theorem xkA43 : ∀ g, g < 1 → xokG 43 g = true
  | 0, _ => xk43_0
  | g + 1, h => absurd h (by omega)
theorem xkA44 : ∀ g, g < 1 → xokG 44 g = true
  | 0, _ => xk44_0
  | g + 1, h => absurd h (by omega)
theorem xkA45 : ∀ g, g < 1 → xokG 45 g = true
  | 0, _ => xk45_0
  | g + 1, h => absurd h (by omega)
theorem xkA46 : ∀ g, g < 1 → xokG 46 g = true
  | 0, _ => xk46_0
  | g + 1, h => absurd h (by omega)
theorem xkA47 : ∀ g, g < 1 → xokG 47 g = true
  | 0, _ => xk47_0
  | g + 1, h => absurd h (by omega)
theorem xkA48 : ∀ g, g < 1 → xokG 48 g = true
  | 0, _ => xk48_0
  | g + 1, h => absurd h (by omega)
theorem xkA49 : ∀ g, g < 1 → xokG 49 g = true
  | 0, _ => xk49_0
  | g + 1, h => absurd h (by omega)
theorem xkA50 : ∀ g, g < 1 → xokG 50 g = true
  | 0, _ => xk50_0
  | g + 1, h => absurd h (by omega)
theorem xkA51 : ∀ g, g < 1 → xokG 51 g = true
  | 0, _ => xk51_0
  | g + 1, h => absurd h (by omega)
theorem xkA52 : ∀ g, g < 1 → xokG 52 g = true
  | 0, _ => xk52_0
  | g + 1, h => absurd h (by omega)
theorem xkA53 : ∀ g, g < 1 → xokG 53 g = true
  | 0, _ => xk53_0
  | g + 1, h => absurd h (by omega)
theorem xkA54 : ∀ g, g < 1 → xokG 54 g = true
  | 0, _ => xk54_0
  | g + 1, h => absurd h (by omega)
theorem xkA55 : ∀ g, g < 1 → xokG 55 g = true
  | 0, _ => xk55_0
  | g + 1, h => absurd h (by omega)
theorem xkA56 : ∀ g, g < 1 → xokG 56 g = true
  | 0, _ => xk56_0
  | g + 1, h => absurd h (by omega)
theorem xkA57 : ∀ g, g < 1 → xokG 57 g = true
  | 0, _ => xk57_0
  | g + 1, h => absurd h (by omega)
theorem xkA58 : ∀ g, g < 1 → xokG 58 g = true
  | 0, _ => xk58_0
  | g + 1, h => absurd h (by omega)
theorem xkA59 : ∀ g, g < 1 → xokG 59 g = true
  | 0, _ => xk59_0
  | g + 1, h => absurd h (by omega)
theorem xkA60 : ∀ g, g < 1 → xokG 60 g = true
  | 0, _ => xk60_0
  | g + 1, h => absurd h (by omega)
theorem xkA61 : ∀ g, g < 1 → xokG 61 g = true
  | 0, _ => xk61_0
  | g + 1, h => absurd h (by omega)
theorem xkA62 : ∀ g, g < 1 → xokG 62 g = true
  | 0, _ => xk62_0
  | g + 1, h => absurd h (by omega)
theorem xkA63 : ∀ g, g < 1 → xokG 63 g = true
  | 0, _ => xk63_0
  | g + 1, h => absurd h (by omega)
theorem xkA64 : ∀ g, g < 1 → xokG 64 g = true
  | 0, _ => xk64_0
  | g + 1, h => absurd h (by omega)
theorem xkA65 : ∀ g, g < 1 → xokG 65 g = true
  | 0, _ => xk65_0
  | g + 1, h => absurd h (by omega)
theorem xkA66 : ∀ g, g < 1 → xokG 66 g = true
  | 0, _ => xk66_0
  | g + 1, h => absurd h (by omega)
theorem xkA67 : ∀ g, g < 1 → xokG 67 g = true
  | 0, _ => xk67_0
  | g + 1, h => absurd h (by omega)
theorem xkA68 : ∀ g, g < 1 → xokG 68 g = true
  | 0, _ => xk68_0
  | g + 1, h => absurd h (by omega)
theorem xkA69 : ∀ g, g < 1 → xokG 69 g = true
  | 0, _ => xk69_0
  | g + 1, h => absurd h (by omega)
theorem xkA70 : ∀ g, g < 1 → xokG 70 g = true
  | 0, _ => xk70_0
  | g + 1, h => absurd h (by omega)
theorem xkA71 : ∀ g, g < 2 → xokG 71 g = true
  | 0, _ => xk71_0
  | 1, _ => xk71_1
  | g + 2, h => absurd h (by omega)
theorem xkA72 : ∀ g, g < 1 → xokG 72 g = true
  | 0, _ => xk72_0
  | g + 1, h => absurd h (by omega)
theorem xkA73 : ∀ g, g < 1 → xokG 73 g = true
  | 0, _ => xk73_0
  | g + 1, h => absurd h (by omega)
theorem xkA74 : ∀ g, g < 1 → xokG 74 g = true
  | 0, _ => xk74_0
  | g + 1, h => absurd h (by omega)
theorem xkA75 : ∀ g, g < 1 → xokG 75 g = true
  | 0, _ => xk75_0
  | g + 1, h => absurd h (by omega)
theorem xkA76 : ∀ g, g < 1 → xokG 76 g = true
  | 0, _ => xk76_0
  | g + 1, h => absurd h (by omega)
theorem xkA77 : ∀ g, g < 1 → xokG 77 g = true
  | 0, _ => xk77_0
  | g + 1, h => absurd h (by omega)
theorem xkA78 : ∀ g, g < 1 → xokG 78 g = true
  | 0, _ => xk78_0
  | g + 1, h => absurd h (by omega)
theorem xkA79 : ∀ g, g < 1 → xokG 79 g = true
  | 0, _ => xk79_0
  | g + 1, h => absurd h (by omega)
theorem xkA80 : ∀ g, g < 1 → xokG 80 g = true
  | 0, _ => xk80_0
  | g + 1, h => absurd h (by omega)
theorem xkA81 : ∀ g, g < 1 → xokG 81 g = true
  | 0, _ => xk81_0
  | g + 1, h => absurd h (by omega)
theorem xkA82 : ∀ g, g < 1 → xokG 82 g = true
  | 0, _ => xk82_0
  | g + 1, h => absurd h (by omega)
theorem xkA83 : ∀ g, g < 1 → xokG 83 g = true
  | 0, _ => xk83_0
  | g + 1, h => absurd h (by omega)
theorem xkA84 : ∀ g, g < 1 → xokG 84 g = true
  | 0, _ => xk84_0
  | g + 1, h => absurd h (by omega)
theorem xkA85 : ∀ g, g < 1 → xokG 85 g = true
  | 0, _ => xk85_0
  | g + 1, h => absurd h (by omega)
theorem xkA86 : ∀ g, g < 1 → xokG 86 g = true
  | 0, _ => xk86_0
  | g + 1, h => absurd h (by omega)
theorem xkA87 : ∀ g, g < 1 → xokG 87 g = true
  | 0, _ => xk87_0
  | g + 1, h => absurd h (by omega)
theorem xkA88 : ∀ g, g < 1 → xokG 88 g = true
  | 0, _ => xk88_0
  | g + 1, h => absurd h (by omega)
theorem xkA89 : ∀ g, g < 1 → xokG 89 g = true
  | 0, _ => xk89_0
  | g + 1, h => absurd h (by omega)
theorem xkA90 : ∀ g, g < 1 → xokG 90 g = true
  | 0, _ => xk90_0
  | g + 1, h => absurd h (by omega)
theorem xkA91 : ∀ g, g < 1 → xokG 91 g = true
  | 0, _ => xk91_0
  | g + 1, h => absurd h (by omega)
theorem xkA92 : ∀ g, g < 1 → xokG 92 g = true
  | 0, _ => xk92_0
  | g + 1, h => absurd h (by omega)
theorem xkA93 : ∀ g, g < 1 → xokG 93 g = true
  | 0, _ => xk93_0
  | g + 1, h => absurd h (by omega)
theorem xkA94 : ∀ g, g < 1 → xokG 94 g = true
  | 0, _ => xk94_0
  | g + 1, h => absurd h (by omega)
theorem xkA95 : ∀ g, g < 1 → xokG 95 g = true
  | 0, _ => xk95_0
  | g + 1, h => absurd h (by omega)
theorem xkA96 : ∀ g, g < 1 → xokG 96 g = true
  | 0, _ => xk96_0
  | g + 1, h => absurd h (by omega)
theorem xkA97 : ∀ g, g < 1 → xokG 97 g = true
  | 0, _ => xk97_0
  | g + 1, h => absurd h (by omega)
theorem xkA98 : ∀ g, g < 1 → xokG 98 g = true
  | 0, _ => xk98_0
  | g + 1, h => absurd h (by omega)
theorem xkA99 : ∀ g, g < 2 → xokG 99 g = true
  | 0, _ => xk99_0
  | 1, _ => xk99_1
  | g + 2, h => absurd h (by omega)
theorem xkA100 : ∀ g, g < 1 → xokG 100 g = true
  | 0, _ => xk100_0
  | g + 1, h => absurd h (by omega)
theorem xkA101 : ∀ g, g < 1 → xokG 101 g = true
  | 0, _ => xk101_0
  | g + 1, h => absurd h (by omega)
theorem xkA102 : ∀ g, g < 1 → xokG 102 g = true
  | 0, _ => xk102_0
  | g + 1, h => absurd h (by omega)
theorem xkA103 : ∀ g, g < 1 → xokG 103 g = true
  | 0, _ => xk103_0
  | g + 1, h => absurd h (by omega)
theorem xkA104 : ∀ g, g < 1 → xokG 104 g = true
  | 0, _ => xk104_0
  | g + 1, h => absurd h (by omega)
theorem xkA105 : ∀ g, g < 1 → xokG 105 g = true
  | 0, _ => xk105_0
  | g + 1, h => absurd h (by omega)
theorem xkA106 : ∀ g, g < 1 → xokG 106 g = true
  | 0, _ => xk106_0
  | g + 1, h => absurd h (by omega)
theorem xkA107 : ∀ g, g < 1 → xokG 107 g = true
  | 0, _ => xk107_0
  | g + 1, h => absurd h (by omega)
theorem xkA108 : ∀ g, g < 1 → xokG 108 g = true
  | 0, _ => xk108_0
  | g + 1, h => absurd h (by omega)
theorem xkA109 : ∀ g, g < 1 → xokG 109 g = true
  | 0, _ => xk109_0
  | g + 1, h => absurd h (by omega)
theorem xkA110 : ∀ g, g < 2 → xokG 110 g = true
  | 0, _ => xk110_0
  | 1, _ => xk110_1
  | g + 2, h => absurd h (by omega)
theorem xkA111 : ∀ g, g < 1 → xokG 111 g = true
  | 0, _ => xk111_0
  | g + 1, h => absurd h (by omega)
theorem xkA112 : ∀ g, g < 2 → xokG 112 g = true
  | 0, _ => xk112_0
  | 1, _ => xk112_1
  | g + 2, h => absurd h (by omega)
theorem xkA113 : ∀ g, g < 1 → xokG 113 g = true
  | 0, _ => xk113_0
  | g + 1, h => absurd h (by omega)
theorem xkA114 : ∀ g, g < 1 → xokG 114 g = true
  | 0, _ => xk114_0
  | g + 1, h => absurd h (by omega)
theorem xkA115 : ∀ g, g < 1 → xokG 115 g = true
  | 0, _ => xk115_0
  | g + 1, h => absurd h (by omega)
theorem xkA116 : ∀ g, g < 1 → xokG 116 g = true
  | 0, _ => xk116_0
  | g + 1, h => absurd h (by omega)
theorem xkA117 : ∀ g, g < 2 → xokG 117 g = true
  | 0, _ => xk117_0
  | 1, _ => xk117_1
  | g + 2, h => absurd h (by omega)
theorem xkA118 : ∀ g, g < 1 → xokG 118 g = true
  | 0, _ => xk118_0
  | g + 1, h => absurd h (by omega)
theorem xkA119 : ∀ g, g < 2 → xokG 119 g = true
  | 0, _ => xk119_0
  | 1, _ => xk119_1
  | g + 2, h => absurd h (by omega)
theorem xkA120 : ∀ g, g < 1 → xokG 120 g = true
  | 0, _ => xk120_0
  | g + 1, h => absurd h (by omega)
theorem xkA121 : ∀ g, g < 1 → xokG 121 g = true
  | 0, _ => xk121_0
  | g + 1, h => absurd h (by omega)
theorem xkA122 : ∀ g, g < 2 → xokG 122 g = true
  | 0, _ => xk122_0
  | 1, _ => xk122_1
  | g + 2, h => absurd h (by omega)
theorem xkA123 : ∀ g, g < 3 → xokG 123 g = true
  | 0, _ => xk123_0
  | 1, _ => xk123_1
  | 2, _ => xk123_2
  | g + 3, h => absurd h (by omega)
theorem xkA124 : ∀ g, g < 2 → xokG 124 g = true
  | 0, _ => xk124_0
  | 1, _ => xk124_1
  | g + 2, h => absurd h (by omega)
theorem xkA125 : ∀ g, g < 1 → xokG 125 g = true
  | 0, _ => xk125_0
  | g + 1, h => absurd h (by omega)
theorem xkA126 : ∀ g, g < 2 → xokG 126 g = true
  | 0, _ => xk126_0
  | 1, _ => xk126_1
  | g + 2, h => absurd h (by omega)
theorem xkA127 : ∀ g, g < 2 → xokG 127 g = true
  | 0, _ => xk127_0
  | 1, _ => xk127_1
  | g + 2, h => absurd h (by omega)
theorem xkA128 : ∀ g, g < 1 → xokG 128 g = true
  | 0, _ => xk128_0
  | g + 1, h => absurd h (by omega)
theorem xkA129 : ∀ g, g < 2 → xokG 129 g = true
  | 0, _ => xk129_0
  | 1, _ => xk129_1
  | g + 2, h => absurd h (by omega)
theorem xkA130 : ∀ g, g < 1 → xokG 130 g = true
  | 0, _ => xk130_0
  | g + 1, h => absurd h (by omega)
theorem xkA131 : ∀ g, g < 1 → xokG 131 g = true
  | 0, _ => xk131_0
  | g + 1, h => absurd h (by omega)
theorem xkA132 : ∀ g, g < 2 → xokG 132 g = true
  | 0, _ => xk132_0
  | 1, _ => xk132_1
  | g + 2, h => absurd h (by omega)
theorem xkA133 : ∀ g, g < 2 → xokG 133 g = true
  | 0, _ => xk133_0
  | 1, _ => xk133_1
  | g + 2, h => absurd h (by omega)
theorem xkA134 : ∀ g, g < 1 → xokG 134 g = true
  | 0, _ => xk134_0
  | g + 1, h => absurd h (by omega)
theorem xkA135 : ∀ g, g < 1 → xokG 135 g = true
  | 0, _ => xk135_0
  | g + 1, h => absurd h (by omega)
theorem xkA136 : ∀ g, g < 1 → xokG 136 g = true
  | 0, _ => xk136_0
  | g + 1, h => absurd h (by omega)
theorem xkA137 : ∀ g, g < 3 → xokG 137 g = true
  | 0, _ => xk137_0
  | 1, _ => xk137_1
  | 2, _ => xk137_2
  | g + 3, h => absurd h (by omega)
theorem xkA138 : ∀ g, g < 1 → xokG 138 g = true
  | 0, _ => xk138_0
  | g + 1, h => absurd h (by omega)
theorem xkA139 : ∀ g, g < 1 → xokG 139 g = true
  | 0, _ => xk139_0
  | g + 1, h => absurd h (by omega)
theorem xkA140 : ∀ g, g < 2 → xokG 140 g = true
  | 0, _ => xk140_0
  | 1, _ => xk140_1
  | g + 2, h => absurd h (by omega)
theorem xkA141 : ∀ g, g < 1 → xokG 141 g = true
  | 0, _ => xk141_0
  | g + 1, h => absurd h (by omega)
theorem xkA142 : ∀ g, g < 1 → xokG 142 g = true
  | 0, _ => xk142_0
  | g + 1, h => absurd h (by omega)
theorem xkA143 : ∀ g, g < 1 → xokG 143 g = true
  | 0, _ => xk143_0
  | g + 1, h => absurd h (by omega)
theorem xkA144 : ∀ g, g < 2 → xokG 144 g = true
  | 0, _ => xk144_0
  | 1, _ => xk144_1
  | g + 2, h => absurd h (by omega)
theorem xkA145 : ∀ g, g < 3 → xokG 145 g = true
  | 0, _ => xk145_0
  | 1, _ => xk145_1
  | 2, _ => xk145_2
  | g + 3, h => absurd h (by omega)
theorem xkA146 : ∀ g, g < 2 → xokG 146 g = true
  | 0, _ => xk146_0
  | 1, _ => xk146_1
  | g + 2, h => absurd h (by omega)
theorem xkA147 : ∀ g, g < 1 → xokG 147 g = true
  | 0, _ => xk147_0
  | g + 1, h => absurd h (by omega)
theorem xkA148 : ∀ g, g < 1 → xokG 148 g = true
  | 0, _ => xk148_0
  | g + 1, h => absurd h (by omega)
theorem xkA149 : ∀ g, g < 1 → xokG 149 g = true
  | 0, _ => xk149_0
  | g + 1, h => absurd h (by omega)
theorem xkA150 : ∀ g, g < 1 → xokG 150 g = true
  | 0, _ => xk150_0
  | g + 1, h => absurd h (by omega)
theorem xkA151 : ∀ g, g < 3 → xokG 151 g = true
  | 0, _ => xk151_0
  | 1, _ => xk151_1
  | 2, _ => xk151_2
  | g + 3, h => absurd h (by omega)
theorem xkA152 : ∀ g, g < 1 → xokG 152 g = true
  | 0, _ => xk152_0
  | g + 1, h => absurd h (by omega)
theorem xkA153 : ∀ g, g < 3 → xokG 153 g = true
  | 0, _ => xk153_0
  | 1, _ => xk153_1
  | 2, _ => xk153_2
  | g + 3, h => absurd h (by omega)
theorem xkA154 : ∀ g, g < 1 → xokG 154 g = true
  | 0, _ => xk154_0
  | g + 1, h => absurd h (by omega)
theorem xkA155 : ∀ g, g < 2 → xokG 155 g = true
  | 0, _ => xk155_0
  | 1, _ => xk155_1
  | g + 2, h => absurd h (by omega)
theorem xkA156 : ∀ g, g < 1 → xokG 156 g = true
  | 0, _ => xk156_0
  | g + 1, h => absurd h (by omega)
theorem xkA157 : ∀ g, g < 1 → xokG 157 g = true
  | 0, _ => xk157_0
  | g + 1, h => absurd h (by omega)
theorem xkA158 : ∀ g, g < 1 → xokG 158 g = true
  | 0, _ => xk158_0
  | g + 1, h => absurd h (by omega)
theorem xkA159 : ∀ g, g < 1 → xokG 159 g = true
  | 0, _ => xk159_0
  | g + 1, h => absurd h (by omega)
theorem xkA160 : ∀ g, g < 1 → xokG 160 g = true
  | 0, _ => xk160_0
  | g + 1, h => absurd h (by omega)
theorem xkA161 : ∀ g, g < 1 → xokG 161 g = true
  | 0, _ => xk161_0
  | g + 1, h => absurd h (by omega)
theorem xkA162 : ∀ g, g < 1 → xokG 162 g = true
  | 0, _ => xk162_0
  | g + 1, h => absurd h (by omega)
theorem xkA163 : ∀ g, g < 1 → xokG 163 g = true
  | 0, _ => xk163_0
  | g + 1, h => absurd h (by omega)
theorem xkA164 : ∀ g, g < 1 → xokG 164 g = true
  | 0, _ => xk164_0
  | g + 1, h => absurd h (by omega)
theorem xkA165 : ∀ g, g < 2 → xokG 165 g = true
  | 0, _ => xk165_0
  | 1, _ => xk165_1
  | g + 2, h => absurd h (by omega)
theorem xkA166 : ∀ g, g < 1 → xokG 166 g = true
  | 0, _ => xk166_0
  | g + 1, h => absurd h (by omega)
theorem xkA167 : ∀ g, g < 1 → xokG 167 g = true
  | 0, _ => xk167_0
  | g + 1, h => absurd h (by omega)
theorem xkA168 : ∀ g, g < 1 → xokG 168 g = true
  | 0, _ => xk168_0
  | g + 1, h => absurd h (by omega)
theorem xkA169 : ∀ g, g < 1 → xokG 169 g = true
  | 0, _ => xk169_0
  | g + 1, h => absurd h (by omega)
theorem xkA170 : ∀ g, g < 1 → xokG 170 g = true
  | 0, _ => xk170_0
  | g + 1, h => absurd h (by omega)
theorem xkA171 : ∀ g, g < 1 → xokG 171 g = true
  | 0, _ => xk171_0
  | g + 1, h => absurd h (by omega)
theorem xkA172 : ∀ g, g < 1 → xokG 172 g = true
  | 0, _ => xk172_0
  | g + 1, h => absurd h (by omega)
theorem xokG_all {M k : Nat} (hk : (xcs M).length ≤ 4 * k) (h : ∀ g, g < k → xokG M g = true) : (xcs M).all (fun c => c.all (fun e => xokI M (xYf M).cls (xccf M) e)) = true := by
  rw [List.all_eq_true]
  intro c hc
  obtain ⟨i, hi⟩ := List.getElem?_of_mem hc
  have hlt : i < (xcs M).length := (List.getElem?_eq_some_iff.mp hi).1
  have h1 := h (i / 4) (by omega)
  unfold xokG at h1
  rw [List.all_eq_true] at h1
  refine h1 c (List.mem_of_getElem? (i := i % 4) ?_)
  rw [List.getElem?_take_of_lt (Nat.mod_lt _ (by decide)), List.getElem?_drop, show 4 * (i / 4) + i % 4 = i by omega]
  exact hi
theorem xkN : ∀ M, M < 173 → (xcs M).all (fun c => c.all (fun e => xokI M (xYf M).cls (xccf M) e)) = true
  | 0, _ => xokG_all (k := 16) (by decide +kernel) xkA0
  | 1, _ => xokG_all (k := 1) (by decide +kernel) xkA1
  | 2, _ => xokG_all (k := 1) (by decide +kernel) xkA2
  | 3, _ => xokG_all (k := 2) (by decide +kernel) xkA3
  | 4, _ => xokG_all (k := 1) (by decide +kernel) xkA4
  | 5, _ => xokG_all (k := 1) (by decide +kernel) xkA5
  | 6, _ => xokG_all (k := 2) (by decide +kernel) xkA6
  | 7, _ => xokG_all (k := 1) (by decide +kernel) xkA7
  | 8, _ => xokG_all (k := 1) (by decide +kernel) xkA8
  | 9, _ => xokG_all (k := 1) (by decide +kernel) xkA9
  | 10, _ => xokG_all (k := 1) (by decide +kernel) xkA10
  | 11, _ => xokG_all (k := 1) (by decide +kernel) xkA11
  | 12, _ => xokG_all (k := 2) (by decide +kernel) xkA12
  | 13, _ => xokG_all (k := 1) (by decide +kernel) xkA13
  | 14, _ => xokG_all (k := 1) (by decide +kernel) xkA14
  | 15, _ => xokG_all (k := 1) (by decide +kernel) xkA15
  | 16, _ => xokG_all (k := 1) (by decide +kernel) xkA16
  | 17, _ => xokG_all (k := 1) (by decide +kernel) xkA17
  | 18, _ => xokG_all (k := 1) (by decide +kernel) xkA18
  | 19, _ => xokG_all (k := 1) (by decide +kernel) xkA19
  | 20, _ => xokG_all (k := 2) (by decide +kernel) xkA20
  | 21, _ => xokG_all (k := 1) (by decide +kernel) xkA21
  | 22, _ => xokG_all (k := 1) (by decide +kernel) xkA22
  | 23, _ => xokG_all (k := 1) (by decide +kernel) xkA23
  | 24, _ => xokG_all (k := 1) (by decide +kernel) xkA24
  | 25, _ => xokG_all (k := 1) (by decide +kernel) xkA25
  | 26, _ => xokG_all (k := 1) (by decide +kernel) xkA26
  | 27, _ => xokG_all (k := 1) (by decide +kernel) xkA27
  | 28, _ => xokG_all (k := 1) (by decide +kernel) xkA28
  | 29, _ => xokG_all (k := 1) (by decide +kernel) xkA29
  | 30, _ => xokG_all (k := 1) (by decide +kernel) xkA30
  | 31, _ => xokG_all (k := 2) (by decide +kernel) xkA31
  | 32, _ => xokG_all (k := 1) (by decide +kernel) xkA32
  | 33, _ => xokG_all (k := 1) (by decide +kernel) xkA33
  | 34, _ => xokG_all (k := 1) (by decide +kernel) xkA34
  | 35, _ => xokG_all (k := 1) (by decide +kernel) xkA35
  | 36, _ => xokG_all (k := 1) (by decide +kernel) xkA36
  | 37, _ => xokG_all (k := 1) (by decide +kernel) xkA37
  | 38, _ => xokG_all (k := 1) (by decide +kernel) xkA38
  | 39, _ => xokG_all (k := 1) (by decide +kernel) xkA39
  | 40, _ => xokG_all (k := 2) (by decide +kernel) xkA40
  | 41, _ => xokG_all (k := 1) (by decide +kernel) xkA41
  | 42, _ => xokG_all (k := 2) (by decide +kernel) xkA42
  | 43, _ => xokG_all (k := 1) (by decide +kernel) xkA43
  | 44, _ => xokG_all (k := 1) (by decide +kernel) xkA44
  | 45, _ => xokG_all (k := 1) (by decide +kernel) xkA45
  | 46, _ => xokG_all (k := 1) (by decide +kernel) xkA46
  | 47, _ => xokG_all (k := 1) (by decide +kernel) xkA47
  | 48, _ => xokG_all (k := 1) (by decide +kernel) xkA48
  | 49, _ => xokG_all (k := 1) (by decide +kernel) xkA49
  | 50, _ => xokG_all (k := 1) (by decide +kernel) xkA50
  | 51, _ => xokG_all (k := 1) (by decide +kernel) xkA51
  | 52, _ => xokG_all (k := 1) (by decide +kernel) xkA52
  | 53, _ => xokG_all (k := 1) (by decide +kernel) xkA53
  | 54, _ => xokG_all (k := 1) (by decide +kernel) xkA54
  | 55, _ => xokG_all (k := 1) (by decide +kernel) xkA55
  | 56, _ => xokG_all (k := 1) (by decide +kernel) xkA56
  | 57, _ => xokG_all (k := 1) (by decide +kernel) xkA57
  | 58, _ => xokG_all (k := 1) (by decide +kernel) xkA58
  | 59, _ => xokG_all (k := 1) (by decide +kernel) xkA59
  | 60, _ => xokG_all (k := 1) (by decide +kernel) xkA60
  | 61, _ => xokG_all (k := 1) (by decide +kernel) xkA61
  | 62, _ => xokG_all (k := 1) (by decide +kernel) xkA62
  | 63, _ => xokG_all (k := 1) (by decide +kernel) xkA63
  | 64, _ => xokG_all (k := 1) (by decide +kernel) xkA64
  | 65, _ => xokG_all (k := 1) (by decide +kernel) xkA65
  | 66, _ => xokG_all (k := 1) (by decide +kernel) xkA66
  | 67, _ => xokG_all (k := 1) (by decide +kernel) xkA67
  | 68, _ => xokG_all (k := 1) (by decide +kernel) xkA68
  | 69, _ => xokG_all (k := 1) (by decide +kernel) xkA69
  | 70, _ => xokG_all (k := 1) (by decide +kernel) xkA70
  | 71, _ => xokG_all (k := 2) (by decide +kernel) xkA71
  | 72, _ => xokG_all (k := 1) (by decide +kernel) xkA72
  | 73, _ => xokG_all (k := 1) (by decide +kernel) xkA73
  | 74, _ => xokG_all (k := 1) (by decide +kernel) xkA74
  | 75, _ => xokG_all (k := 1) (by decide +kernel) xkA75
  | 76, _ => xokG_all (k := 1) (by decide +kernel) xkA76
  | 77, _ => xokG_all (k := 1) (by decide +kernel) xkA77
  | 78, _ => xokG_all (k := 1) (by decide +kernel) xkA78
  | 79, _ => xokG_all (k := 1) (by decide +kernel) xkA79
  | 80, _ => xokG_all (k := 1) (by decide +kernel) xkA80
  | 81, _ => xokG_all (k := 1) (by decide +kernel) xkA81
  | 82, _ => xokG_all (k := 1) (by decide +kernel) xkA82
  | 83, _ => xokG_all (k := 1) (by decide +kernel) xkA83
  | 84, _ => xokG_all (k := 1) (by decide +kernel) xkA84
  | 85, _ => xokG_all (k := 1) (by decide +kernel) xkA85
  | 86, _ => xokG_all (k := 1) (by decide +kernel) xkA86
  | 87, _ => xokG_all (k := 1) (by decide +kernel) xkA87
  | 88, _ => xokG_all (k := 1) (by decide +kernel) xkA88
  | 89, _ => xokG_all (k := 1) (by decide +kernel) xkA89
  | 90, _ => xokG_all (k := 1) (by decide +kernel) xkA90
  | 91, _ => xokG_all (k := 1) (by decide +kernel) xkA91
  | 92, _ => xokG_all (k := 1) (by decide +kernel) xkA92
  | 93, _ => xokG_all (k := 1) (by decide +kernel) xkA93
  | 94, _ => xokG_all (k := 1) (by decide +kernel) xkA94
  | 95, _ => xokG_all (k := 1) (by decide +kernel) xkA95
  | 96, _ => xokG_all (k := 1) (by decide +kernel) xkA96
  | 97, _ => xokG_all (k := 1) (by decide +kernel) xkA97
  | 98, _ => xokG_all (k := 1) (by decide +kernel) xkA98
  | 99, _ => xokG_all (k := 2) (by decide +kernel) xkA99
  | 100, _ => xokG_all (k := 1) (by decide +kernel) xkA100
  | 101, _ => xokG_all (k := 1) (by decide +kernel) xkA101
  | 102, _ => xokG_all (k := 1) (by decide +kernel) xkA102
  | 103, _ => xokG_all (k := 1) (by decide +kernel) xkA103
  | 104, _ => xokG_all (k := 1) (by decide +kernel) xkA104
  | 105, _ => xokG_all (k := 1) (by decide +kernel) xkA105
  | 106, _ => xokG_all (k := 1) (by decide +kernel) xkA106
  | 107, _ => xokG_all (k := 1) (by decide +kernel) xkA107
  | 108, _ => xokG_all (k := 1) (by decide +kernel) xkA108
  | 109, _ => xokG_all (k := 1) (by decide +kernel) xkA109
  | 110, _ => xokG_all (k := 2) (by decide +kernel) xkA110
  | 111, _ => xokG_all (k := 1) (by decide +kernel) xkA111
  | 112, _ => xokG_all (k := 2) (by decide +kernel) xkA112
  | 113, _ => xokG_all (k := 1) (by decide +kernel) xkA113
  | 114, _ => xokG_all (k := 1) (by decide +kernel) xkA114
  | 115, _ => xokG_all (k := 1) (by decide +kernel) xkA115
  | 116, _ => xokG_all (k := 1) (by decide +kernel) xkA116
  | 117, _ => xokG_all (k := 2) (by decide +kernel) xkA117
  | 118, _ => xokG_all (k := 1) (by decide +kernel) xkA118
  | 119, _ => xokG_all (k := 2) (by decide +kernel) xkA119
  | 120, _ => xokG_all (k := 1) (by decide +kernel) xkA120
  | 121, _ => xokG_all (k := 1) (by decide +kernel) xkA121
  | 122, _ => xokG_all (k := 2) (by decide +kernel) xkA122
  | 123, _ => xokG_all (k := 3) (by decide +kernel) xkA123
  | 124, _ => xokG_all (k := 2) (by decide +kernel) xkA124
  | 125, _ => xokG_all (k := 1) (by decide +kernel) xkA125
  | 126, _ => xokG_all (k := 2) (by decide +kernel) xkA126
  | 127, _ => xokG_all (k := 2) (by decide +kernel) xkA127
  | 128, _ => xokG_all (k := 1) (by decide +kernel) xkA128
  | 129, _ => xokG_all (k := 2) (by decide +kernel) xkA129
  | 130, _ => xokG_all (k := 1) (by decide +kernel) xkA130
  | 131, _ => xokG_all (k := 1) (by decide +kernel) xkA131
  | 132, _ => xokG_all (k := 2) (by decide +kernel) xkA132
  | 133, _ => xokG_all (k := 2) (by decide +kernel) xkA133
  | 134, _ => xokG_all (k := 1) (by decide +kernel) xkA134
  | 135, _ => xokG_all (k := 1) (by decide +kernel) xkA135
  | 136, _ => xokG_all (k := 1) (by decide +kernel) xkA136
  | 137, _ => xokG_all (k := 3) (by decide +kernel) xkA137
  | 138, _ => xokG_all (k := 1) (by decide +kernel) xkA138
  | 139, _ => xokG_all (k := 1) (by decide +kernel) xkA139
  | 140, _ => xokG_all (k := 2) (by decide +kernel) xkA140
  | 141, _ => xokG_all (k := 1) (by decide +kernel) xkA141
  | 142, _ => xokG_all (k := 1) (by decide +kernel) xkA142
  | 143, _ => xokG_all (k := 1) (by decide +kernel) xkA143
  | 144, _ => xokG_all (k := 2) (by decide +kernel) xkA144
  | 145, _ => xokG_all (k := 3) (by decide +kernel) xkA145
  | 146, _ => xokG_all (k := 2) (by decide +kernel) xkA146
  | 147, _ => xokG_all (k := 1) (by decide +kernel) xkA147
  | 148, _ => xokG_all (k := 1) (by decide +kernel) xkA148
  | 149, _ => xokG_all (k := 1) (by decide +kernel) xkA149
  | 150, _ => xokG_all (k := 1) (by decide +kernel) xkA150
  | 151, _ => xokG_all (k := 3) (by decide +kernel) xkA151
  | 152, _ => xokG_all (k := 1) (by decide +kernel) xkA152
  | 153, _ => xokG_all (k := 3) (by decide +kernel) xkA153
  | 154, _ => xokG_all (k := 1) (by decide +kernel) xkA154
  | 155, _ => xokG_all (k := 2) (by decide +kernel) xkA155
  | 156, _ => xokG_all (k := 1) (by decide +kernel) xkA156
  | 157, _ => xokG_all (k := 1) (by decide +kernel) xkA157
  | 158, _ => xokG_all (k := 1) (by decide +kernel) xkA158
  | 159, _ => xokG_all (k := 1) (by decide +kernel) xkA159
  | 160, _ => xokG_all (k := 1) (by decide +kernel) xkA160
  | 161, _ => xokG_all (k := 1) (by decide +kernel) xkA161
  | 162, _ => xokG_all (k := 1) (by decide +kernel) xkA162
  | 163, _ => xokG_all (k := 1) (by decide +kernel) xkA163
  | 164, _ => xokG_all (k := 1) (by decide +kernel) xkA164
  | 165, _ => xokG_all (k := 2) (by decide +kernel) xkA165
  | 166, _ => xokG_all (k := 1) (by decide +kernel) xkA166
  | 167, _ => xokG_all (k := 1) (by decide +kernel) xkA167
  | 168, _ => xokG_all (k := 1) (by decide +kernel) xkA168
  | 169, _ => xokG_all (k := 1) (by decide +kernel) xkA169
  | 170, _ => xokG_all (k := 1) (by decide +kernel) xkA170
  | 171, _ => xokG_all (k := 1) (by decide +kernel) xkA171
  | 172, _ => xokG_all (k := 1) (by decide +kernel) xkA172
  | M + 173, h => absurd h (by omega)
theorem xkOut {M : Nat} (h : 173 ≤ M) : xcs M = [] := by
  unfold xcs xn2
  rw [xnth_eq]
  by_cases h2 : 16 * xcodes.length ≤ M
  · rw [List.getElem?_eq_none (by omega)]
  · have e : M / 16 = 10 := by
      have : xcodes.length = 11 := by decide +kernel
      omega
    rw [e]
    have e2 : 13 ≤ M % 16 := by
      have : xcodes.length = 11 := by decide +kernel
      omega
    show xnth _ (M % 16) [] id = []
    rw [xnth_eq, List.getElem?_eq_none (Nat.le_trans (by decide +kernel) e2)]
theorem xkCC : ∀ m, 0 < m → m < 173 → xokC m = true
  | 0, h, _ => absurd h (by decide)
  | 1, _, _ => xkC1
  | 2, _, _ => xkC2
  | 3, _, _ => xkC3
  | 4, _, _ => xkC4
  | 5, _, _ => xkC5
  | 6, _, _ => xkC6
  | 7, _, _ => xkC7
  | 8, _, _ => xkC8
  | 9, _, _ => xkC9
  | 10, _, _ => xkC10
  | 11, _, _ => xkC11
  | 12, _, _ => xkC12
  | 13, _, _ => xkC13
  | 14, _, _ => xkC14
  | 15, _, _ => xkC15
  | 16, _, _ => xkC16
  | 17, _, _ => xkC17
  | 18, _, _ => xkC18
  | 19, _, _ => xkC19
  | 20, _, _ => xkC20
  | 21, _, _ => xkC21
  | 22, _, _ => xkC22
  | 23, _, _ => xkC23
  | 24, _, _ => xkC24
  | 25, _, _ => xkC25
  | 26, _, _ => xkC26
  | 27, _, _ => xkC27
  | 28, _, _ => xkC28
  | 29, _, _ => xkC29
  | 30, _, _ => xkC30
  | 31, _, _ => xkC31
  | 32, _, _ => xkC32
  | 33, _, _ => xkC33
  | 34, _, _ => xkC34
  | 35, _, _ => xkC35
  | 36, _, _ => xkC36
  | 37, _, _ => xkC37
  | 38, _, _ => xkC38
  | 39, _, _ => xkC39
  | 40, _, _ => xkC40
  | 41, _, _ => xkC41
  | 42, _, _ => xkC42
  | 43, _, _ => xkC43
  | 44, _, _ => xkC44
  | 45, _, _ => xkC45
  | 46, _, _ => xkC46
  | 47, _, _ => xkC47
  | 48, _, _ => xkC48
  | 49, _, _ => xkC49
  | 50, _, _ => xkC50
  | 51, _, _ => xkC51
  | 52, _, _ => xkC52
  | 53, _, _ => xkC53
  | 54, _, _ => xkC54
  | 55, _, _ => xkC55
  | 56, _, _ => xkC56
  | 57, _, _ => xkC57
  | 58, _, _ => xkC58
  | 59, _, _ => xkC59
  | 60, _, _ => xkC60
  | 61, _, _ => xkC61
  | 62, _, _ => xkC62
  | 63, _, _ => xkC63
  | 64, _, _ => xkC64
  | 65, _, _ => xkC65
  | 66, _, _ => xkC66
  | 67, _, _ => xkC67
  | 68, _, _ => xkC68
  | 69, _, _ => xkC69
  | 70, _, _ => xkC70
  | 71, _, _ => xkC71
  | 72, _, _ => xkC72
  | 73, _, _ => xkC73
  | 74, _, _ => xkC74
  | 75, _, _ => xkC75
  | 76, _, _ => xkC76
  | 77, _, _ => xkC77
  | 78, _, _ => xkC78
  | 79, _, _ => xkC79
  | 80, _, _ => xkC80
  | 81, _, _ => xkC81
  | 82, _, _ => xkC82
  | 83, _, _ => xkC83
  | 84, _, _ => xkC84
  | 85, _, _ => xkC85
  | 86, _, _ => xkC86
  | 87, _, _ => xkC87
  | 88, _, _ => xkC88
  | 89, _, _ => xkC89
  | 90, _, _ => xkC90
  | 91, _, _ => xkC91
  | 92, _, _ => xkC92
  | 93, _, _ => xkC93
  | 94, _, _ => xkC94
  | 95, _, _ => xkC95
  | 96, _, _ => xkC96
  | 97, _, _ => xkC97
  | 98, _, _ => xkC98
  | 99, _, _ => xkC99
  | 100, _, _ => xkC100
  | 101, _, _ => xkC101
  | 102, _, _ => xkC102
  | 103, _, _ => xkC103
  | 104, _, _ => xkC104
  | 105, _, _ => xkC105
  | 106, _, _ => xkC106
  | 107, _, _ => xkC107
  | 108, _, _ => xkC108
  | 109, _, _ => xkC109
  | 110, _, _ => xkC110
  | 111, _, _ => xkC111
  | 112, _, _ => xkC112
  | 113, _, _ => xkC113
  | 114, _, _ => xkC114
  | 115, _, _ => xkC115
  | 116, _, _ => xkC116
  | 117, _, _ => xkC117
  | 118, _, _ => xkC118
  | 119, _, _ => xkC119
  | 120, _, _ => xkC120
  | 121, _, _ => xkC121
  | 122, _, _ => xkC122
  | 123, _, _ => xkC123
  | 124, _, _ => xkC124
  | 125, _, _ => xkC125
  | 126, _, _ => xkC126
  | 127, _, _ => xkC127
  | 128, _, _ => xkC128
  | 129, _, _ => xkC129
  | 130, _, _ => xkC130
  | 131, _, _ => xkC131
  | 132, _, _ => xkC132
  | 133, _, _ => xkC133
  | 134, _, _ => xkC134
  | 135, _, _ => xkC135
  | 136, _, _ => xkC136
  | 137, _, _ => xkC137
  | 138, _, _ => xkC138
  | 139, _, _ => xkC139
  | 140, _, _ => xkC140
  | 141, _, _ => xkC141
  | 142, _, _ => xkC142
  | 143, _, _ => xkC143
  | 144, _, _ => xkC144
  | 145, _, _ => xkC145
  | 146, _, _ => xkC146
  | 147, _, _ => xkC147
  | 148, _, _ => xkC148
  | 149, _, _ => xkC149
  | 150, _, _ => xkC150
  | 151, _, _ => xkC151
  | 152, _, _ => xkC152
  | 153, _, _ => xkC153
  | 154, _, _ => xkC154
  | 155, _, _ => xkC155
  | 156, _, _ => xkC156
  | 157, _, _ => xkC157
  | 158, _, _ => xkC158
  | 159, _, _ => xkC159
  | 160, _, _ => xkC160
  | 161, _, _ => xkC161
  | 162, _, _ => xkC162
  | 163, _, _ => xkC163
  | 164, _, _ => xkC164
  | 165, _, _ => xkC165
  | 166, _, _ => xkC166
  | 167, _, _ => xkC167
  | 168, _, _ => xkC168
  | 169, _, _ => xkC169
  | 170, _, _ => xkC170
  | 171, _, _ => xkC171
  | 172, _, _ => xkC172
  | m + 173, _, h => absurd h (by omega)
theorem xkAll : ∀ M, xokM M = true := by
  intro M
  unfold xokM
  rw [Bool.and_eq_true]
  by_cases h : M < 173
  · refine ⟨xkN M h, ?_⟩
    match M, h with
    | 0, _ => rfl
    | m + 1, h =>
      show (xokC (m + 1) || Nat.ble xNM (m + 1)) = true
      rw [xkCC (m + 1) (by omega) h]
      rfl
  · refine ⟨by rw [xkOut (by omega)]; rfl, ?_⟩
    match M, h with
    | 0, h => exact absurd (by decide) h
    | m + 1, h =>
      show (xokC (m + 1) || Nat.ble xNM (m + 1)) = true
      have : Nat.ble xNM (m + 1) = true := Nat.ble_eq_true_of_le (show 173 ≤ m + 1 by omega)
      rw [this, Bool.or_true]
theorem xkcls0 : ∀ w ∈ u_ws xR0 xT0 3, w ∈ xTs := by decide +kernel
theorem xkcls1 : ∀ w ∈ u_ws xR1 xT1 9, w ∈ xTs := by decide +kernel
theorem xkcls2 : ∀ w ∈ u_ws xR2 xT2 3, w ∈ xTs := by decide +kernel
theorem xkcls3 : ∀ w ∈ u_ws xR3 xT3 4, w ∈ xTs := by decide +kernel
theorem xkcls4 : ∀ w ∈ u_ws xR4 xT4 5, w ∈ xTs := by decide +kernel
theorem xkcls5 : ∀ w ∈ u_ws xR5 xT5 5, w ∈ xTs := by decide +kernel
theorem xkcls6 : ∀ w ∈ u_ws xR6 xT6 6, w ∈ xTs := by decide +kernel
theorem xkcls7 : ∀ w ∈ u_ws xR7 xT7 4, w ∈ xTs := by decide +kernel
theorem xkcls8 : ∀ w ∈ u_ws xR8 xT8 7, w ∈ xTs := by decide +kernel
theorem xkcls9 : ∀ w ∈ u_ws xR9 xT9 9, w ∈ xTs := by decide +kernel
theorem xkcls10 : ∀ w ∈ u_ws xR10 xT10 30, w ∈ xTs := by decide +kernel
theorem xkcls : ∀ ci C, xCl[ci]? = some C → ∃ ty, xTys[ci]? = some ty ∧ xokCls ci C ty
  | 0, C, h => by cases h; exact ⟨xty0, rfl, xkcls0, by decide +kernel, by decide +kernel, by decide +kernel⟩
  | 1, C, h => by cases h; exact ⟨xty1, rfl, xkcls1, by decide +kernel, by decide +kernel, by decide +kernel⟩
  | 2, C, h => by cases h; exact ⟨xty2, rfl, xkcls2, by decide +kernel, by decide +kernel, by decide +kernel⟩
  | 3, C, h => by cases h; exact ⟨xty3, rfl, xkcls3, by decide +kernel, by decide +kernel, by decide +kernel⟩
  | 4, C, h => by cases h; exact ⟨xty4, rfl, xkcls4, by decide +kernel, by decide +kernel, by decide +kernel⟩
  | 5, C, h => by cases h; exact ⟨xty5, rfl, xkcls5, by decide +kernel, by decide +kernel, by decide +kernel⟩
  | 6, C, h => by cases h; exact ⟨xty6, rfl, xkcls6, by decide +kernel, by decide +kernel, by decide +kernel⟩
  | 7, C, h => by cases h; exact ⟨xty7, rfl, xkcls7, by decide +kernel, by decide +kernel, by decide +kernel⟩
  | 8, C, h => by cases h; exact ⟨xty8, rfl, xkcls8, by decide +kernel, by decide +kernel, by decide +kernel⟩
  | 9, C, h => by cases h; exact ⟨xty9, rfl, xkcls9, by decide +kernel, by decide +kernel, by decide +kernel⟩
  | 10, C, h => by cases h; exact ⟨xty10, rfl, xkcls10, by decide +kernel, by decide +kernel, by decide +kernel⟩
  | ci + 11, C, h => by simp [xCl] at h
theorem xkinst : ∀ (ci : Nat) (C : vw_C), xCl[ci]? = some C → Cond.instantiable C.1 C.2.2 ∈ xTs
  | 0, C, h => by cases h; decide +kernel
  | 1, C, h => by cases h; decide +kernel
  | 2, C, h => by cases h; decide +kernel
  | 3, C, h => by cases h; decide +kernel
  | 4, C, h => by cases h; decide +kernel
  | 5, C, h => by cases h; decide +kernel
  | 6, C, h => by cases h; decide +kernel
  | 7, C, h => by cases h; decide +kernel
  | 8, C, h => by cases h; decide +kernel
  | 9, C, h => by cases h; decide +kernel
  | 10, C, h => by cases h; decide +kernel
  | ci + 11, C, h => by simp [xCl] at h
def xkind (w : Cond) : Bool := goodWord w || (match w with
  | .methodLinkNest _ _ _ _ => true
  | .arrayOver (.object _) => true
  | .arrayOver (.array .int) => true
  | _ => false)
theorem xkind_all : lw_tbl.all (fun w => !xneed w || xkind w) = true := by decide +kernel
theorem xkind_of {w : Cond} (h : xkind w = true) : goodWord w = true ∨ (∃ a i y h, w = .methodLinkNest a i y h) ∨ (∃ C, w = .arrayOver (.object C)) ∨ w = .arrayOver (.array .int) := by
  unfold xkind at h
  rw [Bool.or_eq_true] at h
  rcases h with h | h
  · exact Or.inl h
  · split at h
    · exact Or.inr (Or.inl ⟨_, _, _, _, rfl⟩)
    · exact Or.inr (Or.inr (Or.inl ⟨_, rfl⟩))
    · exact Or.inr (Or.inr (Or.inr rfl))
    · cases h
theorem xkOK : xOK := by
  refine ⟨xkAll, xkcls, fun w hw hn => ?_, ⟨by decide +kernel, by decide +kernel, by decide +kernel, by decide +kernel, by decide +kernel⟩, ⟨by decide +kernel, by decide +kernel, by decide +kernel⟩, ⟨by decide +kernel, by decide +kernel⟩, ⟨by decide +kernel, by decide +kernel, by decide +kernel, by decide +kernel, by decide +kernel⟩⟩
  have h := List.all_eq_true.mp xkind_all w hw
  rw [hn] at h
  exact xkind_of h
