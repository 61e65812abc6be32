-- ===== the cells as they stand behind the two constructors =====
def SH : xSh := [(19, 9), (18, 7), (16, 6), (0, 24), (0, 24), (0, 24), (0, 24), (0, 24), (11, 9), (0, 8), (0, 8), (0, 8), (0, 8), (0, 8), (0, 8), (0, 8), (0, 64), (0, 6), (0, 4), (18, 7), (16, 6), (0, 24), (0, 24), (0, 24), (0, 24), (0, 24), (11, 9), (0, 8), (0, 8), (0, 8), (0, 8), (0, 8), (0, 8), (0, 8), (0, 64), (0, 6), (0, 4), (12, 3), (3, 4), (0, 144), (0, 144), (0, 144), (0, 144), (15, 5), (0, 384), (0, 64), (0, 64), (17, 4), (0, 3), (0, 3), (10, 3), (0, 24), (0, 12), (14, 5), (2, 160), (16, 6), (0, 24), (0, 24), (0, 24), (0, 24), (0, 24), (11, 9), (0, 8), (0, 8), (0, 8), (0, 8), (0, 8), (0, 8), (0, 8), (0, 64), (4, 4), (13, 4), (1, 24), (13, 4), (1, 24), (13, 4), (1, 24), (13, 4), (1, 24), (20, 30), (0, 120), (0, 56), (0, 64), (0, 4), (0, 6), (0, 12), (0, 160), (0, 120), (0, 144), (0, 448), (0, 64), (0, 64), (0, 96), (0, 24), (0, 12), (0, 12), (0, 250), (0, 5), (0, 4), (0, 4), (1, 96)]
def RF : xRf := [[some 1, some 19, none, some 37, some 43, some 47, some 50, some 53, some 70],
  [some 2, some 8, none, some 17, some 18, none, none],
  [none, some 3, some 4, some 5, some 6, some 7],
  [],
  [],
  [],
  [],
  [],
  [none, some 9, some 10, some 11, some 12, some 13, some 14, some 15, some 16],
  [],
  [],
  [],
  [],
  [],
  [],
  [],
  [],
  [],
  [],
  [some 20, some 26, none, some 35, some 36, none, none],
  [none, some 21, some 22, some 23, some 24, some 25],
  [],
  [],
  [],
  [],
  [],
  [none, some 27, some 28, some 29, some 30, some 31, some 32, some 33, some 34],
  [],
  [],
  [],
  [],
  [],
  [],
  [],
  [],
  [],
  [],
  [some 2, some 38, none],
  [some 39, some 40, some 41, some 42],
  [],
  [],
  [],
  [],
  [some 1, some 37, some 44, some 45, some 46],
  [],
  [],
  [],
  [some 8, some 37, some 48, some 49],
  [],
  [],
  [some 2, some 51, some 52],
  [],
  [],
  [some 54, none, none, some 55, some 61],
  [],
  [none, some 56, some 57, some 58, some 59, some 60],
  [],
  [],
  [],
  [],
  [],
  [none, some 62, some 63, some 64, some 65, some 66, some 67, some 68, some 69],
  [],
  [],
  [],
  [],
  [],
  [],
  [],
  [],
  [some 71, some 73, some 75, some 77],
  [none, none, none, some 72],
  [],
  [none, none, none, some 74],
  [],
  [none, none, none, some 76],
  [],
  [none, none, none, some 78],
  [],
  [some 80, none, some 81, none, some 82, some 83, none, some 84, none, none, some 85, some 86, none, none, none, some 87, some 88, some 89, some 90, some 91, some 92, some 93, some 94, some 95, none, some 96, some 97, some 98, some 99, some 100],
  [],
  [],
  [],
  [],
  [],
  [],
  [],
  [],
  [],
  [],
  [],
  [],
  [],
  [],
  [],
  [],
  [],
  [],
  [],
  [],
  []]
/-- what the numbers are at first -/
def IV0 (k j : Nat) : Int32 := match k with
  | 18 => (match j with
    | 0 => 400
    | 1 => 300
    | 2 => 500
    | 3 => 900
    | _ => 0)
  | 36 => (match j with
    | 0 => 400
    | 1 => 300
    | 2 => 500
    | 3 => 900
    | _ => 0)
  | 83 => (match j with
    | 0 => 400
    | 1 => 300
    | 2 => 500
    | 3 => 900
    | _ => 0)
  | 98 => (match j with
    | 0 => (-1)
    | 1 => (-1)
    | 2 => (-1)
    | 3 => (-1)
    | _ => 0)
  | _ => 0
