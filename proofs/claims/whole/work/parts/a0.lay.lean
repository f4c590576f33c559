/-! ===== the layout: cells by number ===== -/
theorem lay_c0 {K : SK} (h : Lay K) : isC K 0 11 0 := ⟨Nat.lt_of_lt_of_le (by decide) h.1, h.2.1 0 (by decide)⟩
theorem lay_c1 {K : SK} (h : Lay K) : isC K 1 9 0 := ⟨Nat.lt_of_lt_of_le (by decide) h.1, h.2.1 1 (by decide)⟩
theorem lay_c2 {K : SK} (h : Lay K) : isC K 2 20 4 := ⟨Nat.lt_of_lt_of_le (by decide) h.1, h.2.1 2 (by decide)⟩
theorem lay_c3 {K : SK} (h : Lay K) : isC K 3 24 2 := ⟨Nat.lt_of_lt_of_le (by decide) h.1, h.2.1 3 (by decide)⟩
theorem lay_c4 {K : SK} (h : Lay K) : isC K 4 25 2 := ⟨Nat.lt_of_lt_of_le (by decide) h.1, h.2.1 4 (by decide)⟩
theorem lay_c5 {K : SK} (h : Lay K) : isC K 5 26 2 := ⟨Nat.lt_of_lt_of_le (by decide) h.1, h.2.1 5 (by decide)⟩
theorem lay_c6 {K : SK} (h : Lay K) : isC K 6 27 2 := ⟨Nat.lt_of_lt_of_le (by decide) h.1, h.2.1 6 (by decide)⟩
theorem lay_c7 {K : SK} (h : Lay K) : isC K 7 5 0 := ⟨Nat.lt_of_lt_of_le (by decide) h.1, h.2.1 7 (by decide)⟩
theorem lay_c8 {K : SK} (h : Lay K) : isC K 8 20 8 := ⟨Nat.lt_of_lt_of_le (by decide) h.1, h.2.1 8 (by decide)⟩
theorem lay_c9 {K : SK} (h : Lay K) : isC K 9 20 8 := ⟨Nat.lt_of_lt_of_le (by decide) h.1, h.2.1 9 (by decide)⟩
theorem lay_c10 {K : SK} (h : Lay K) : isC K 10 20 8 := ⟨Nat.lt_of_lt_of_le (by decide) h.1, h.2.1 10 (by decide)⟩
theorem lay_c11 {K : SK} (h : Lay K) : isC K 11 20 8 := ⟨Nat.lt_of_lt_of_le (by decide) h.1, h.2.1 11 (by decide)⟩
theorem lay_c12 {K : SK} (h : Lay K) : isC K 12 20 8 := ⟨Nat.lt_of_lt_of_le (by decide) h.1, h.2.1 12 (by decide)⟩
theorem lay_c13 {K : SK} (h : Lay K) : isC K 13 20 8 := ⟨Nat.lt_of_lt_of_le (by decide) h.1, h.2.1 13 (by decide)⟩
theorem lay_c14 {K : SK} (h : Lay K) : isC K 14 20 8 := ⟨Nat.lt_of_lt_of_le (by decide) h.1, h.2.1 14 (by decide)⟩
theorem lay_c15 {K : SK} (h : Lay K) : isC K 15 20 64 := ⟨Nat.lt_of_lt_of_le (by decide) h.1, h.2.1 15 (by decide)⟩
theorem lay_c16 {K : SK} (h : Lay K) : isC K 16 4 0 := ⟨Nat.lt_of_lt_of_le (by decide) h.1, h.2.1 16 (by decide)⟩
theorem lay_c17 {K : SK} (h : Lay K) : isC K 17 2 0 := ⟨Nat.lt_of_lt_of_le (by decide) h.1, h.2.1 17 (by decide)⟩
theorem lay_c18 {K : SK} (h : Lay K) : isC K 18 20 40 := ⟨Nat.lt_of_lt_of_le (by decide) h.1, h.2.1 18 (by decide)⟩
theorem lay_c19 {K : SK} (h : Lay K) : isC K 19 20 40 := ⟨Nat.lt_of_lt_of_le (by decide) h.1, h.2.1 19 (by decide)⟩
theorem lay_c20 {K : SK} (h : Lay K) : isC K 20 20 40 := ⟨Nat.lt_of_lt_of_le (by decide) h.1, h.2.1 20 (by decide)⟩
theorem lay_c21 {K : SK} (h : Lay K) : isC K 21 8 0 := ⟨Nat.lt_of_lt_of_le (by decide) h.1, h.2.1 21 (by decide)⟩
theorem lay_c22 {K : SK} (h : Lay K) : isC K 22 20 8 := ⟨Nat.lt_of_lt_of_le (by decide) h.1, h.2.1 22 (by decide)⟩
theorem lay_c23 {K : SK} (h : Lay K) : isC K 23 5 0 := ⟨Nat.lt_of_lt_of_le (by decide) h.1, h.2.1 23 (by decide)⟩
theorem lay_c24 {K : SK} (h : Lay K) : isC K 24 20 8 := ⟨Nat.lt_of_lt_of_le (by decide) h.1, h.2.1 24 (by decide)⟩
theorem lay_c25 {K : SK} (h : Lay K) : isC K 25 20 8 := ⟨Nat.lt_of_lt_of_le (by decide) h.1, h.2.1 25 (by decide)⟩
theorem lay_c26 {K : SK} (h : Lay K) : isC K 26 20 8 := ⟨Nat.lt_of_lt_of_le (by decide) h.1, h.2.1 26 (by decide)⟩
theorem lay_c27 {K : SK} (h : Lay K) : isC K 27 20 8 := ⟨Nat.lt_of_lt_of_le (by decide) h.1, h.2.1 27 (by decide)⟩
theorem lay_c28 {K : SK} (h : Lay K) : isC K 28 20 8 := ⟨Nat.lt_of_lt_of_le (by decide) h.1, h.2.1 28 (by decide)⟩
theorem lay_c29 {K : SK} (h : Lay K) : isC K 29 20 8 := ⟨Nat.lt_of_lt_of_le (by decide) h.1, h.2.1 29 (by decide)⟩
theorem lay_c30 {K : SK} (h : Lay K) : isC K 30 20 8 := ⟨Nat.lt_of_lt_of_le (by decide) h.1, h.2.1 30 (by decide)⟩
theorem lay_c31 {K : SK} (h : Lay K) : isC K 31 20 64 := ⟨Nat.lt_of_lt_of_le (by decide) h.1, h.2.1 31 (by decide)⟩
theorem lay_c32 {K : SK} (h : Lay K) : isC K 32 4 0 := ⟨Nat.lt_of_lt_of_le (by decide) h.1, h.2.1 32 (by decide)⟩
theorem lay_c33 {K : SK} (h : Lay K) : isC K 33 2 0 := ⟨Nat.lt_of_lt_of_le (by decide) h.1, h.2.1 33 (by decide)⟩
theorem lay_c34 {K : SK} (h : Lay K) : isC K 34 20 40 := ⟨Nat.lt_of_lt_of_le (by decide) h.1, h.2.1 34 (by decide)⟩
theorem lay_c35 {K : SK} (h : Lay K) : isC K 35 20 40 := ⟨Nat.lt_of_lt_of_le (by decide) h.1, h.2.1 35 (by decide)⟩
theorem lay_c36 {K : SK} (h : Lay K) : isC K 36 20 40 := ⟨Nat.lt_of_lt_of_le (by decide) h.1, h.2.1 36 (by decide)⟩
theorem lay_c37 {K : SK} (h : Lay K) : isC K 37 8 0 := ⟨Nat.lt_of_lt_of_le (by decide) h.1, h.2.1 37 (by decide)⟩
theorem lay_c38 {K : SK} (h : Lay K) : isC K 38 20 8 := ⟨Nat.lt_of_lt_of_le (by decide) h.1, h.2.1 38 (by decide)⟩
theorem lay_c39 {K : SK} (h : Lay K) : isC K 39 22 600 := ⟨Nat.lt_of_lt_of_le (by decide) h.1, h.2.1 39 (by decide)⟩
theorem lay_c40 {K : SK} (h : Lay K) : isC K 40 28 3 := ⟨Nat.lt_of_lt_of_le (by decide) h.1, h.2.1 40 (by decide)⟩
theorem lay_c41 {K : SK} (h : Lay K) : isC K 41 7 0 := ⟨Nat.lt_of_lt_of_le (by decide) h.1, h.2.1 41 (by decide)⟩
theorem lay_c42 {K : SK} (h : Lay K) : isC K 42 5 0 := ⟨Nat.lt_of_lt_of_le (by decide) h.1, h.2.1 42 (by decide)⟩
theorem lay_c43 {K : SK} (h : Lay K) : isC K 43 20 8 := ⟨Nat.lt_of_lt_of_le (by decide) h.1, h.2.1 43 (by decide)⟩
theorem lay_c44 {K : SK} (h : Lay K) : isC K 44 20 8 := ⟨Nat.lt_of_lt_of_le (by decide) h.1, h.2.1 44 (by decide)⟩
theorem lay_c45 {K : SK} (h : Lay K) : isC K 45 20 8 := ⟨Nat.lt_of_lt_of_le (by decide) h.1, h.2.1 45 (by decide)⟩
theorem lay_c46 {K : SK} (h : Lay K) : isC K 46 20 8 := ⟨Nat.lt_of_lt_of_le (by decide) h.1, h.2.1 46 (by decide)⟩
theorem lay_c47 {K : SK} (h : Lay K) : isC K 47 20 8 := ⟨Nat.lt_of_lt_of_le (by decide) h.1, h.2.1 47 (by decide)⟩
theorem lay_c48 {K : SK} (h : Lay K) : isC K 48 20 8 := ⟨Nat.lt_of_lt_of_le (by decide) h.1, h.2.1 48 (by decide)⟩
theorem lay_c49 {K : SK} (h : Lay K) : isC K 49 20 8 := ⟨Nat.lt_of_lt_of_le (by decide) h.1, h.2.1 49 (by decide)⟩
theorem lay_c50 {K : SK} (h : Lay K) : isC K 50 20 64 := ⟨Nat.lt_of_lt_of_le (by decide) h.1, h.2.1 50 (by decide)⟩
theorem lay_c51 {K : SK} (h : Lay K) : isC K 51 4 0 := ⟨Nat.lt_of_lt_of_le (by decide) h.1, h.2.1 51 (by decide)⟩
theorem lay_c52 {K : SK} (h : Lay K) : isC K 52 2 0 := ⟨Nat.lt_of_lt_of_le (by decide) h.1, h.2.1 52 (by decide)⟩
theorem lay_c53 {K : SK} (h : Lay K) : isC K 53 20 40 := ⟨Nat.lt_of_lt_of_le (by decide) h.1, h.2.1 53 (by decide)⟩
theorem lay_c54 {K : SK} (h : Lay K) : isC K 54 20 40 := ⟨Nat.lt_of_lt_of_le (by decide) h.1, h.2.1 54 (by decide)⟩
theorem lay_c55 {K : SK} (h : Lay K) : isC K 55 20 40 := ⟨Nat.lt_of_lt_of_le (by decide) h.1, h.2.1 55 (by decide)⟩
theorem lay_c56 {K : SK} (h : Lay K) : isC K 56 8 0 := ⟨Nat.lt_of_lt_of_le (by decide) h.1, h.2.1 56 (by decide)⟩
theorem lay_c57 {K : SK} (h : Lay K) : isC K 57 20 8 := ⟨Nat.lt_of_lt_of_le (by decide) h.1, h.2.1 57 (by decide)⟩
theorem lay_c58 {K : SK} (h : Lay K) : isC K 58 20 5 := ⟨Nat.lt_of_lt_of_le (by decide) h.1, h.2.1 58 (by decide)⟩
theorem lay_c59 {K : SK} (h : Lay K) : isC K 59 22 0 := ⟨Nat.lt_of_lt_of_le (by decide) h.1, h.2.1 59 (by decide)⟩
theorem lay_c60 {K : SK} (h : Lay K) : isC K 60 0 0 := ⟨Nat.lt_of_lt_of_le (by decide) h.1, h.2.1 60 (by decide)⟩
theorem lay_c61 {K : SK} (h : Lay K) : isC K 61 5 0 := ⟨Nat.lt_of_lt_of_le (by decide) h.1, h.2.1 61 (by decide)⟩
theorem lay_c62 {K : SK} (h : Lay K) : isC K 62 20 8 := ⟨Nat.lt_of_lt_of_le (by decide) h.1, h.2.1 62 (by decide)⟩
theorem lay_c63 {K : SK} (h : Lay K) : isC K 63 20 8 := ⟨Nat.lt_of_lt_of_le (by decide) h.1, h.2.1 63 (by decide)⟩
theorem lay_c64 {K : SK} (h : Lay K) : isC K 64 20 8 := ⟨Nat.lt_of_lt_of_le (by decide) h.1, h.2.1 64 (by decide)⟩
theorem lay_c65 {K : SK} (h : Lay K) : isC K 65 20 8 := ⟨Nat.lt_of_lt_of_le (by decide) h.1, h.2.1 65 (by decide)⟩
theorem lay_c66 {K : SK} (h : Lay K) : isC K 66 20 8 := ⟨Nat.lt_of_lt_of_le (by decide) h.1, h.2.1 66 (by decide)⟩
theorem lay_c67 {K : SK} (h : Lay K) : isC K 67 20 8 := ⟨Nat.lt_of_lt_of_le (by decide) h.1, h.2.1 67 (by decide)⟩
theorem lay_c68 {K : SK} (h : Lay K) : isC K 68 20 8 := ⟨Nat.lt_of_lt_of_le (by decide) h.1, h.2.1 68 (by decide)⟩
theorem lay_c69 {K : SK} (h : Lay K) : isC K 69 20 64 := ⟨Nat.lt_of_lt_of_le (by decide) h.1, h.2.1 69 (by decide)⟩
theorem lay_c70 {K : SK} (h : Lay K) : isC K 70 20 8 := ⟨Nat.lt_of_lt_of_le (by decide) h.1, h.2.1 70 (by decide)⟩
theorem lay_c71 {K : SK} (h : Lay K) : isC K 71 20 4 := ⟨Nat.lt_of_lt_of_le (by decide) h.1, h.2.1 71 (by decide)⟩
theorem lay_c72 {K : SK} (h : Lay K) : isC K 72 20 4 := ⟨Nat.lt_of_lt_of_le (by decide) h.1, h.2.1 72 (by decide)⟩
theorem lay_c73 {K : SK} (h : Lay K) : isC K 73 20 512 := ⟨Nat.lt_of_lt_of_le (by decide) h.1, h.2.1 73 (by decide)⟩
theorem lay_c74 {K : SK} (h : Lay K) : isC K 74 20 8 := ⟨Nat.lt_of_lt_of_le (by decide) h.1, h.2.1 74 (by decide)⟩
theorem lay_c75 {K : SK} (h : Lay K) : isC K 75 20 8 := ⟨Nat.lt_of_lt_of_le (by decide) h.1, h.2.1 75 (by decide)⟩
theorem lay_c76 {K : SK} (h : Lay K) : isC K 76 21 8 := ⟨Nat.lt_of_lt_of_le (by decide) h.1, h.2.1 76 (by decide)⟩
theorem lay_c77 {K : SK} (h : Lay K) : isC K 77 20 8 := ⟨Nat.lt_of_lt_of_le (by decide) h.1, h.2.1 77 (by decide)⟩
theorem lay_c78 {K : SK} (h : Lay K) : isC K 78 6 0 := ⟨Nat.lt_of_lt_of_le (by decide) h.1, h.2.1 78 (by decide)⟩
theorem lay_c79 {K : SK} (h : Lay K) : isC K 79 20 8 := ⟨Nat.lt_of_lt_of_le (by decide) h.1, h.2.1 79 (by decide)⟩
theorem lay_c80 {K : SK} (h : Lay K) : isC K 80 20 8 := ⟨Nat.lt_of_lt_of_le (by decide) h.1, h.2.1 80 (by decide)⟩
theorem lay_c81 {K : SK} (h : Lay K) : isC K 81 1 0 := ⟨Nat.lt_of_lt_of_le (by decide) h.1, h.2.1 81 (by decide)⟩
theorem lay_c82 {K : SK} (h : Lay K) : isC K 82 20 128 := ⟨Nat.lt_of_lt_of_le (by decide) h.1, h.2.1 82 (by decide)⟩
theorem lay_c83 {K : SK} (h : Lay K) : isC K 83 10 0 := ⟨Nat.lt_of_lt_of_le (by decide) h.1, h.2.1 83 (by decide)⟩
theorem lay_c84 {K : SK} (h : Lay K) : isC K 84 20 64 := ⟨Nat.lt_of_lt_of_le (by decide) h.1, h.2.1 84 (by decide)⟩
theorem lay_c85 {K : SK} (h : Lay K) : isC K 85 20 64 := ⟨Nat.lt_of_lt_of_le (by decide) h.1, h.2.1 85 (by decide)⟩
theorem lay_c86 {K : SK} (h : Lay K) : isC K 86 20 64 := ⟨Nat.lt_of_lt_of_le (by decide) h.1, h.2.1 86 (by decide)⟩
theorem lay_c87 {K : SK} (h : Lay K) : isC K 87 20 2048 := ⟨Nat.lt_of_lt_of_le (by decide) h.1, h.2.1 87 (by decide)⟩
theorem lay_c88 {K : SK} (h : Lay K) : isC K 88 3 0 := ⟨Nat.lt_of_lt_of_le (by decide) h.1, h.2.1 88 (by decide)⟩
theorem lay_c89 {K : SK} (h : Lay K) : isC K 89 20 80 := ⟨Nat.lt_of_lt_of_le (by decide) h.1, h.2.1 89 (by decide)⟩
theorem lay_c90 {K : SK} (h : Lay K) : isC K 90 12 0 := ⟨Nat.lt_of_lt_of_le (by decide) h.1, h.2.1 90 (by decide)⟩
theorem lay_c91 {K : SK} (h : Lay K) : isC K 91 20 4520 := ⟨Nat.lt_of_lt_of_le (by decide) h.1, h.2.1 91 (by decide)⟩
theorem lay_c92 {K : SK} (h : Lay K) : isC K 92 23 3 := ⟨Nat.lt_of_lt_of_le (by decide) h.1, h.2.1 92 (by decide)⟩
theorem lay_c93 {K : SK} (h : Lay K) : isC K 93 20 124 := ⟨Nat.lt_of_lt_of_le (by decide) h.1, h.2.1 93 (by decide)⟩
theorem lay_c94 {K : SK} (h : Lay K) : isC K 94 20 8 := ⟨Nat.lt_of_lt_of_le (by decide) h.1, h.2.1 94 (by decide)⟩
theorem lay_c95 {K : SK} (h : Lay K) : isC K 95 20 8 := ⟨Nat.lt_of_lt_of_le (by decide) h.1, h.2.1 95 (by decide)⟩
theorem lay_c96 {K : SK} (h : Lay K) : isC K 96 20 8 := ⟨Nat.lt_of_lt_of_le (by decide) h.1, h.2.1 96 (by decide)⟩
theorem lay_c97 {K : SK} (h : Lay K) : isC K 97 20 8 := ⟨Nat.lt_of_lt_of_le (by decide) h.1, h.2.1 97 (by decide)⟩
theorem lay_c98 {K : SK} (h : Lay K) : isC K 98 20 8 := ⟨Nat.lt_of_lt_of_le (by decide) h.1, h.2.1 98 (by decide)⟩
theorem lay_c99 {K : SK} (h : Lay K) : isC K 99 20 8 := ⟨Nat.lt_of_lt_of_le (by decide) h.1, h.2.1 99 (by decide)⟩
theorem lay_c100 {K : SK} (h : Lay K) : isC K 100 20 8 := ⟨Nat.lt_of_lt_of_le (by decide) h.1, h.2.1 100 (by decide)⟩
theorem lay_c101 {K : SK} (h : Lay K) : isC K 101 23 8 := ⟨Nat.lt_of_lt_of_le (by decide) h.1, h.2.1 101 (by decide)⟩
theorem lay_c102 {K : SK} (h : Lay K) : isC K 102 20 64 := ⟨Nat.lt_of_lt_of_le (by decide) h.1, h.2.1 102 (by decide)⟩
theorem lay_c103 {K : SK} (h : Lay K) : isC K 103 20 8 := ⟨Nat.lt_of_lt_of_le (by decide) h.1, h.2.1 103 (by decide)⟩
theorem lay_c104 {K : SK} (h : Lay K) : isC K 104 20 4 := ⟨Nat.lt_of_lt_of_le (by decide) h.1, h.2.1 104 (by decide)⟩
theorem lay_c105 {K : SK} (h : Lay K) : isC K 105 20 4 := ⟨Nat.lt_of_lt_of_le (by decide) h.1, h.2.1 105 (by decide)⟩
theorem lay_c106 {K : SK} (h : Lay K) : isC K 106 20 4 := ⟨Nat.lt_of_lt_of_le (by decide) h.1, h.2.1 106 (by decide)⟩
theorem lay_c107 {K : SK} (h : Lay K) : isC K 107 20 8 := ⟨Nat.lt_of_lt_of_le (by decide) h.1, h.2.1 107 (by decide)⟩
theorem lay_c108 {K : SK} (h : Lay K) : isC K 108 20 8 := ⟨Nat.lt_of_lt_of_le (by decide) h.1, h.2.1 108 (by decide)⟩
theorem lay_c109 {K : SK} (h : Lay K) : isC K 109 20 128 := ⟨Nat.lt_of_lt_of_le (by decide) h.1, h.2.1 109 (by decide)⟩
theorem lay_c110 {K : SK} (h : Lay K) : isC K 110 20 64 := ⟨Nat.lt_of_lt_of_le (by decide) h.1, h.2.1 110 (by decide)⟩
theorem lay_c111 {K : SK} (h : Lay K) : isC K 111 20 64 := ⟨Nat.lt_of_lt_of_le (by decide) h.1, h.2.1 111 (by decide)⟩
theorem lay_c112 {K : SK} (h : Lay K) : isC K 112 20 64 := ⟨Nat.lt_of_lt_of_le (by decide) h.1, h.2.1 112 (by decide)⟩
theorem lay_c113 {K : SK} (h : Lay K) : isC K 113 20 2048 := ⟨Nat.lt_of_lt_of_le (by decide) h.1, h.2.1 113 (by decide)⟩
theorem lay_c114 {K : SK} (h : Lay K) : isC K 114 20 80 := ⟨Nat.lt_of_lt_of_le (by decide) h.1, h.2.1 114 (by decide)⟩
theorem lay_r0_0 {K : SK} (h : Lay K) : K.2.2 0 0 = some 1 := h.2.2 (0, 0, 1) (List.mem_of_getElem? (i := 0) rfl)
theorem lay_r0_1 {K : SK} (h : Lay K) : K.2.2 0 1 = some 40 := h.2.2 (0, 1, 40) (List.mem_of_getElem? (i := 1) rfl)
theorem lay_r0_2 {K : SK} (h : Lay K) : K.2.2 0 2 = some 41 := h.2.2 (0, 2, 41) (List.mem_of_getElem? (i := 2) rfl)
theorem lay_r0_3 {K : SK} (h : Lay K) : K.2.2 0 3 = some 60 := h.2.2 (0, 3, 60) (List.mem_of_getElem? (i := 3) rfl)
theorem lay_r0_4 {K : SK} (h : Lay K) : K.2.2 0 4 = some 78 := h.2.2 (0, 4, 78) (List.mem_of_getElem? (i := 4) rfl)
theorem lay_r0_5 {K : SK} (h : Lay K) : K.2.2 0 5 = some 81 := h.2.2 (0, 5, 81) (List.mem_of_getElem? (i := 5) rfl)
theorem lay_r0_6 {K : SK} (h : Lay K) : K.2.2 0 6 = some 83 := h.2.2 (0, 6, 83) (List.mem_of_getElem? (i := 6) rfl)
theorem lay_r0_7 {K : SK} (h : Lay K) : K.2.2 0 7 = some 88 := h.2.2 (0, 7, 88) (List.mem_of_getElem? (i := 7) rfl)
theorem lay_r1_0 {K : SK} (h : Lay K) : K.2.2 1 0 = some 2 := h.2.2 (1, 0, 2) (List.mem_of_getElem? (i := 8) rfl)
theorem lay_r1_1 {K : SK} (h : Lay K) : K.2.2 1 1 = some 3 := h.2.2 (1, 1, 3) (List.mem_of_getElem? (i := 9) rfl)
theorem lay_r1_2 {K : SK} (h : Lay K) : K.2.2 1 2 = some 4 := h.2.2 (1, 2, 4) (List.mem_of_getElem? (i := 10) rfl)
theorem lay_r1_3 {K : SK} (h : Lay K) : K.2.2 1 3 = some 5 := h.2.2 (1, 3, 5) (List.mem_of_getElem? (i := 11) rfl)
theorem lay_r1_4 {K : SK} (h : Lay K) : K.2.2 1 4 = some 6 := h.2.2 (1, 4, 6) (List.mem_of_getElem? (i := 12) rfl)
theorem lay_r1_5 {K : SK} (h : Lay K) : K.2.2 1 5 = some 39 := h.2.2 (1, 5, 39) (List.mem_of_getElem? (i := 13) rfl)
theorem lay_r3_0 {K : SK} (h : Lay K) : K.2.2 3 0 = some 7 := h.2.2 (3, 0, 7) (List.mem_of_getElem? (i := 14) rfl)
theorem lay_r3_1 {K : SK} (h : Lay K) : K.2.2 3 1 = some 23 := h.2.2 (3, 1, 23) (List.mem_of_getElem? (i := 15) rfl)
theorem lay_r4_0 {K : SK} (h : Lay K) : K.2.2 4 0 = some 16 := h.2.2 (4, 0, 16) (List.mem_of_getElem? (i := 16) rfl)
theorem lay_r4_1 {K : SK} (h : Lay K) : K.2.2 4 1 = some 32 := h.2.2 (4, 1, 32) (List.mem_of_getElem? (i := 17) rfl)
theorem lay_r5_0 {K : SK} (h : Lay K) : K.2.2 5 0 = some 17 := h.2.2 (5, 0, 17) (List.mem_of_getElem? (i := 18) rfl)
theorem lay_r5_1 {K : SK} (h : Lay K) : K.2.2 5 1 = some 33 := h.2.2 (5, 1, 33) (List.mem_of_getElem? (i := 19) rfl)
theorem lay_r6_0 {K : SK} (h : Lay K) : K.2.2 6 0 = some 21 := h.2.2 (6, 0, 21) (List.mem_of_getElem? (i := 20) rfl)
theorem lay_r6_1 {K : SK} (h : Lay K) : K.2.2 6 1 = some 37 := h.2.2 (6, 1, 37) (List.mem_of_getElem? (i := 21) rfl)
theorem lay_r7_4 {K : SK} (h : Lay K) : K.2.2 7 4 = some 8 := h.2.2 (7, 4, 8) (List.mem_of_getElem? (i := 22) rfl)
theorem lay_r7_5 {K : SK} (h : Lay K) : K.2.2 7 5 = some 9 := h.2.2 (7, 5, 9) (List.mem_of_getElem? (i := 23) rfl)
theorem lay_r7_6 {K : SK} (h : Lay K) : K.2.2 7 6 = some 10 := h.2.2 (7, 6, 10) (List.mem_of_getElem? (i := 24) rfl)
theorem lay_r7_7 {K : SK} (h : Lay K) : K.2.2 7 7 = some 11 := h.2.2 (7, 7, 11) (List.mem_of_getElem? (i := 25) rfl)
theorem lay_r7_8 {K : SK} (h : Lay K) : K.2.2 7 8 = some 12 := h.2.2 (7, 8, 12) (List.mem_of_getElem? (i := 26) rfl)
theorem lay_r7_9 {K : SK} (h : Lay K) : K.2.2 7 9 = some 13 := h.2.2 (7, 9, 13) (List.mem_of_getElem? (i := 27) rfl)
theorem lay_r7_10 {K : SK} (h : Lay K) : K.2.2 7 10 = some 14 := h.2.2 (7, 10, 14) (List.mem_of_getElem? (i := 28) rfl)
theorem lay_r7_11 {K : SK} (h : Lay K) : K.2.2 7 11 = some 15 := h.2.2 (7, 11, 15) (List.mem_of_getElem? (i := 29) rfl)
theorem lay_r17_1 {K : SK} (h : Lay K) : K.2.2 17 1 = some 18 := h.2.2 (17, 1, 18) (List.mem_of_getElem? (i := 30) rfl)
theorem lay_r17_2 {K : SK} (h : Lay K) : K.2.2 17 2 = some 19 := h.2.2 (17, 2, 19) (List.mem_of_getElem? (i := 31) rfl)
theorem lay_r17_3 {K : SK} (h : Lay K) : K.2.2 17 3 = some 20 := h.2.2 (17, 3, 20) (List.mem_of_getElem? (i := 32) rfl)
theorem lay_r21_1 {K : SK} (h : Lay K) : K.2.2 21 1 = some 22 := h.2.2 (21, 1, 22) (List.mem_of_getElem? (i := 33) rfl)
theorem lay_r23_4 {K : SK} (h : Lay K) : K.2.2 23 4 = some 24 := h.2.2 (23, 4, 24) (List.mem_of_getElem? (i := 34) rfl)
theorem lay_r23_5 {K : SK} (h : Lay K) : K.2.2 23 5 = some 25 := h.2.2 (23, 5, 25) (List.mem_of_getElem? (i := 35) rfl)
theorem lay_r23_6 {K : SK} (h : Lay K) : K.2.2 23 6 = some 26 := h.2.2 (23, 6, 26) (List.mem_of_getElem? (i := 36) rfl)
theorem lay_r23_7 {K : SK} (h : Lay K) : K.2.2 23 7 = some 27 := h.2.2 (23, 7, 27) (List.mem_of_getElem? (i := 37) rfl)
theorem lay_r23_8 {K : SK} (h : Lay K) : K.2.2 23 8 = some 28 := h.2.2 (23, 8, 28) (List.mem_of_getElem? (i := 38) rfl)
theorem lay_r23_9 {K : SK} (h : Lay K) : K.2.2 23 9 = some 29 := h.2.2 (23, 9, 29) (List.mem_of_getElem? (i := 39) rfl)
theorem lay_r23_10 {K : SK} (h : Lay K) : K.2.2 23 10 = some 30 := h.2.2 (23, 10, 30) (List.mem_of_getElem? (i := 40) rfl)
theorem lay_r23_11 {K : SK} (h : Lay K) : K.2.2 23 11 = some 31 := h.2.2 (23, 11, 31) (List.mem_of_getElem? (i := 41) rfl)
theorem lay_r33_1 {K : SK} (h : Lay K) : K.2.2 33 1 = some 34 := h.2.2 (33, 1, 34) (List.mem_of_getElem? (i := 42) rfl)
theorem lay_r33_2 {K : SK} (h : Lay K) : K.2.2 33 2 = some 35 := h.2.2 (33, 2, 35) (List.mem_of_getElem? (i := 43) rfl)
theorem lay_r33_3 {K : SK} (h : Lay K) : K.2.2 33 3 = some 36 := h.2.2 (33, 3, 36) (List.mem_of_getElem? (i := 44) rfl)
theorem lay_r37_1 {K : SK} (h : Lay K) : K.2.2 37 1 = some 38 := h.2.2 (37, 1, 38) (List.mem_of_getElem? (i := 45) rfl)
theorem lay_r41_0 {K : SK} (h : Lay K) : K.2.2 41 0 = some 42 := h.2.2 (41, 0, 42) (List.mem_of_getElem? (i := 46) rfl)
theorem lay_r41_1 {K : SK} (h : Lay K) : K.2.2 41 1 = some 51 := h.2.2 (41, 1, 51) (List.mem_of_getElem? (i := 47) rfl)
theorem lay_r41_2 {K : SK} (h : Lay K) : K.2.2 41 2 = some 52 := h.2.2 (41, 2, 52) (List.mem_of_getElem? (i := 48) rfl)
theorem lay_r41_3 {K : SK} (h : Lay K) : K.2.2 41 3 = some 56 := h.2.2 (41, 3, 56) (List.mem_of_getElem? (i := 49) rfl)
theorem lay_r41_12 {K : SK} (h : Lay K) : K.2.2 41 12 = some 58 := h.2.2 (41, 12, 58) (List.mem_of_getElem? (i := 50) rfl)
theorem lay_r42_4 {K : SK} (h : Lay K) : K.2.2 42 4 = some 43 := h.2.2 (42, 4, 43) (List.mem_of_getElem? (i := 51) rfl)
theorem lay_r42_5 {K : SK} (h : Lay K) : K.2.2 42 5 = some 44 := h.2.2 (42, 5, 44) (List.mem_of_getElem? (i := 52) rfl)
theorem lay_r42_6 {K : SK} (h : Lay K) : K.2.2 42 6 = some 45 := h.2.2 (42, 6, 45) (List.mem_of_getElem? (i := 53) rfl)
theorem lay_r42_7 {K : SK} (h : Lay K) : K.2.2 42 7 = some 46 := h.2.2 (42, 7, 46) (List.mem_of_getElem? (i := 54) rfl)
theorem lay_r42_8 {K : SK} (h : Lay K) : K.2.2 42 8 = some 47 := h.2.2 (42, 8, 47) (List.mem_of_getElem? (i := 55) rfl)
theorem lay_r42_9 {K : SK} (h : Lay K) : K.2.2 42 9 = some 48 := h.2.2 (42, 9, 48) (List.mem_of_getElem? (i := 56) rfl)
theorem lay_r42_10 {K : SK} (h : Lay K) : K.2.2 42 10 = some 49 := h.2.2 (42, 10, 49) (List.mem_of_getElem? (i := 57) rfl)
theorem lay_r42_11 {K : SK} (h : Lay K) : K.2.2 42 11 = some 50 := h.2.2 (42, 11, 50) (List.mem_of_getElem? (i := 58) rfl)
theorem lay_r52_1 {K : SK} (h : Lay K) : K.2.2 52 1 = some 53 := h.2.2 (52, 1, 53) (List.mem_of_getElem? (i := 59) rfl)
theorem lay_r52_2 {K : SK} (h : Lay K) : K.2.2 52 2 = some 54 := h.2.2 (52, 2, 54) (List.mem_of_getElem? (i := 60) rfl)
theorem lay_r52_3 {K : SK} (h : Lay K) : K.2.2 52 3 = some 55 := h.2.2 (52, 3, 55) (List.mem_of_getElem? (i := 61) rfl)
theorem lay_r56_1 {K : SK} (h : Lay K) : K.2.2 56 1 = some 57 := h.2.2 (56, 1, 57) (List.mem_of_getElem? (i := 62) rfl)
theorem lay_r60_0 {K : SK} (h : Lay K) : K.2.2 60 0 = some 61 := h.2.2 (60, 0, 61) (List.mem_of_getElem? (i := 63) rfl)
theorem lay_r60_1 {K : SK} (h : Lay K) : K.2.2 60 1 = some 70 := h.2.2 (60, 1, 70) (List.mem_of_getElem? (i := 64) rfl)
theorem lay_r60_2 {K : SK} (h : Lay K) : K.2.2 60 2 = some 71 := h.2.2 (60, 2, 71) (List.mem_of_getElem? (i := 65) rfl)
theorem lay_r60_3 {K : SK} (h : Lay K) : K.2.2 60 3 = some 72 := h.2.2 (60, 3, 72) (List.mem_of_getElem? (i := 66) rfl)
theorem lay_r60_4 {K : SK} (h : Lay K) : K.2.2 60 4 = some 73 := h.2.2 (60, 4, 73) (List.mem_of_getElem? (i := 67) rfl)
theorem lay_r60_8 {K : SK} (h : Lay K) : K.2.2 60 8 = some 74 := h.2.2 (60, 8, 74) (List.mem_of_getElem? (i := 68) rfl)
theorem lay_r60_9 {K : SK} (h : Lay K) : K.2.2 60 9 = some 75 := h.2.2 (60, 9, 75) (List.mem_of_getElem? (i := 69) rfl)
theorem lay_r60_10 {K : SK} (h : Lay K) : K.2.2 60 10 = some 76 := h.2.2 (60, 10, 76) (List.mem_of_getElem? (i := 70) rfl)
theorem lay_r60_11 {K : SK} (h : Lay K) : K.2.2 60 11 = some 77 := h.2.2 (60, 11, 77) (List.mem_of_getElem? (i := 71) rfl)
theorem lay_r61_4 {K : SK} (h : Lay K) : K.2.2 61 4 = some 62 := h.2.2 (61, 4, 62) (List.mem_of_getElem? (i := 72) rfl)
theorem lay_r61_5 {K : SK} (h : Lay K) : K.2.2 61 5 = some 63 := h.2.2 (61, 5, 63) (List.mem_of_getElem? (i := 73) rfl)
theorem lay_r61_6 {K : SK} (h : Lay K) : K.2.2 61 6 = some 64 := h.2.2 (61, 6, 64) (List.mem_of_getElem? (i := 74) rfl)
theorem lay_r61_7 {K : SK} (h : Lay K) : K.2.2 61 7 = some 65 := h.2.2 (61, 7, 65) (List.mem_of_getElem? (i := 75) rfl)
theorem lay_r61_8 {K : SK} (h : Lay K) : K.2.2 61 8 = some 66 := h.2.2 (61, 8, 66) (List.mem_of_getElem? (i := 76) rfl)
theorem lay_r61_9 {K : SK} (h : Lay K) : K.2.2 61 9 = some 67 := h.2.2 (61, 9, 67) (List.mem_of_getElem? (i := 77) rfl)
theorem lay_r61_10 {K : SK} (h : Lay K) : K.2.2 61 10 = some 68 := h.2.2 (61, 10, 68) (List.mem_of_getElem? (i := 78) rfl)
theorem lay_r61_11 {K : SK} (h : Lay K) : K.2.2 61 11 = some 69 := h.2.2 (61, 11, 69) (List.mem_of_getElem? (i := 79) rfl)
theorem lay_r78_0 {K : SK} (h : Lay K) : K.2.2 78 0 = some 60 := h.2.2 (78, 0, 60) (List.mem_of_getElem? (i := 80) rfl)
theorem lay_r78_2 {K : SK} (h : Lay K) : K.2.2 78 2 = some 79 := h.2.2 (78, 2, 79) (List.mem_of_getElem? (i := 81) rfl)
theorem lay_r78_3 {K : SK} (h : Lay K) : K.2.2 78 3 = some 80 := h.2.2 (78, 3, 80) (List.mem_of_getElem? (i := 82) rfl)
theorem lay_r81_2 {K : SK} (h : Lay K) : K.2.2 81 2 = some 82 := h.2.2 (81, 2, 82) (List.mem_of_getElem? (i := 83) rfl)
theorem lay_r81_3 {K : SK} (h : Lay K) : K.2.2 81 3 = some 60 := h.2.2 (81, 3, 60) (List.mem_of_getElem? (i := 84) rfl)
theorem lay_r83_0 {K : SK} (h : Lay K) : K.2.2 83 0 = some 84 := h.2.2 (83, 0, 84) (List.mem_of_getElem? (i := 85) rfl)
theorem lay_r83_1 {K : SK} (h : Lay K) : K.2.2 83 1 = some 60 := h.2.2 (83, 1, 60) (List.mem_of_getElem? (i := 86) rfl)
theorem lay_r83_2 {K : SK} (h : Lay K) : K.2.2 83 2 = some 85 := h.2.2 (83, 2, 85) (List.mem_of_getElem? (i := 87) rfl)
theorem lay_r83_3 {K : SK} (h : Lay K) : K.2.2 83 3 = some 86 := h.2.2 (83, 3, 86) (List.mem_of_getElem? (i := 88) rfl)
theorem lay_r83_4 {K : SK} (h : Lay K) : K.2.2 83 4 = some 87 := h.2.2 (83, 4, 87) (List.mem_of_getElem? (i := 89) rfl)
theorem lay_r88_0 {K : SK} (h : Lay K) : K.2.2 88 0 = some 60 := h.2.2 (88, 0, 60) (List.mem_of_getElem? (i := 90) rfl)
theorem lay_r88_6 {K : SK} (h : Lay K) : K.2.2 88 6 = some 89 := h.2.2 (88, 6, 89) (List.mem_of_getElem? (i := 91) rfl)
theorem lay_r90_0 {K : SK} (h : Lay K) : K.2.2 90 0 = some 91 := h.2.2 (90, 0, 91) (List.mem_of_getElem? (i := 92) rfl)
theorem lay_r90_1 {K : SK} (h : Lay K) : K.2.2 90 1 = some 92 := h.2.2 (90, 1, 92) (List.mem_of_getElem? (i := 93) rfl)
theorem lay_r90_11 {K : SK} (h : Lay K) : K.2.2 90 11 = some 93 := h.2.2 (90, 11, 93) (List.mem_of_getElem? (i := 94) rfl)
theorem lay_r90_15 {K : SK} (h : Lay K) : K.2.2 90 15 = some 94 := h.2.2 (90, 15, 94) (List.mem_of_getElem? (i := 95) rfl)
theorem lay_r90_16 {K : SK} (h : Lay K) : K.2.2 90 16 = some 95 := h.2.2 (90, 16, 95) (List.mem_of_getElem? (i := 96) rfl)
theorem lay_r90_17 {K : SK} (h : Lay K) : K.2.2 90 17 = some 96 := h.2.2 (90, 17, 96) (List.mem_of_getElem? (i := 97) rfl)
theorem lay_r90_18 {K : SK} (h : Lay K) : K.2.2 90 18 = some 97 := h.2.2 (90, 18, 97) (List.mem_of_getElem? (i := 98) rfl)
theorem lay_r90_19 {K : SK} (h : Lay K) : K.2.2 90 19 = some 98 := h.2.2 (90, 19, 98) (List.mem_of_getElem? (i := 99) rfl)
theorem lay_r90_20 {K : SK} (h : Lay K) : K.2.2 90 20 = some 99 := h.2.2 (90, 20, 99) (List.mem_of_getElem? (i := 100) rfl)
theorem lay_r90_21 {K : SK} (h : Lay K) : K.2.2 90 21 = some 100 := h.2.2 (90, 21, 100) (List.mem_of_getElem? (i := 101) rfl)
theorem lay_r90_22 {K : SK} (h : Lay K) : K.2.2 90 22 = some 101 := h.2.2 (90, 22, 101) (List.mem_of_getElem? (i := 102) rfl)
theorem lay_r90_24 {K : SK} (h : Lay K) : K.2.2 90 24 = some 102 := h.2.2 (90, 24, 102) (List.mem_of_getElem? (i := 103) rfl)
theorem lay_r90_25 {K : SK} (h : Lay K) : K.2.2 90 25 = some 103 := h.2.2 (90, 25, 103) (List.mem_of_getElem? (i := 104) rfl)
theorem lay_r90_28 {K : SK} (h : Lay K) : K.2.2 90 28 = some 104 := h.2.2 (90, 28, 104) (List.mem_of_getElem? (i := 105) rfl)
theorem lay_r90_29 {K : SK} (h : Lay K) : K.2.2 90 29 = some 105 := h.2.2 (90, 29, 105) (List.mem_of_getElem? (i := 106) rfl)
theorem lay_r90_30 {K : SK} (h : Lay K) : K.2.2 90 30 = some 106 := h.2.2 (90, 30, 106) (List.mem_of_getElem? (i := 107) rfl)
theorem lay_r90_34 {K : SK} (h : Lay K) : K.2.2 90 34 = some 107 := h.2.2 (90, 34, 107) (List.mem_of_getElem? (i := 108) rfl)
theorem lay_r90_35 {K : SK} (h : Lay K) : K.2.2 90 35 = some 108 := h.2.2 (90, 35, 108) (List.mem_of_getElem? (i := 109) rfl)
theorem lay_r90_36 {K : SK} (h : Lay K) : K.2.2 90 36 = some 109 := h.2.2 (90, 36, 109) (List.mem_of_getElem? (i := 110) rfl)
theorem lay_r90_37 {K : SK} (h : Lay K) : K.2.2 90 37 = some 110 := h.2.2 (90, 37, 110) (List.mem_of_getElem? (i := 111) rfl)
theorem lay_r90_38 {K : SK} (h : Lay K) : K.2.2 90 38 = some 111 := h.2.2 (90, 38, 111) (List.mem_of_getElem? (i := 112) rfl)
theorem lay_r90_39 {K : SK} (h : Lay K) : K.2.2 90 39 = some 112 := h.2.2 (90, 39, 112) (List.mem_of_getElem? (i := 113) rfl)
theorem lay_r90_40 {K : SK} (h : Lay K) : K.2.2 90 40 = some 113 := h.2.2 (90, 40, 113) (List.mem_of_getElem? (i := 114) rfl)
theorem lay_r90_42 {K : SK} (h : Lay K) : K.2.2 90 42 = some 114 := h.2.2 (90, 42, 114) (List.mem_of_getElem? (i := 115) rfl)
theorem Par_o {K : SK} {a : Nat} (h : Par K a) : isC K a 5 0 := h.1
theorem Par_c1 {K : SK} {a : Nat} (h : Par K a) : isC K (a + 1) 20 8 := h.2.1
theorem Par_c2 {K : SK} {a : Nat} (h : Par K a) : isC K (a + 2) 20 8 := h.2.2.1
theorem Par_c3 {K : SK} {a : Nat} (h : Par K a) : isC K (a + 3) 20 8 := h.2.2.2.1
theorem Par_c4 {K : SK} {a : Nat} (h : Par K a) : isC K (a + 4) 20 8 := h.2.2.2.2.1
theorem Par_c5 {K : SK} {a : Nat} (h : Par K a) : isC K (a + 5) 20 8 := h.2.2.2.2.2.1
theorem Par_c6 {K : SK} {a : Nat} (h : Par K a) : isC K (a + 6) 20 8 := h.2.2.2.2.2.2.1
theorem Par_c7 {K : SK} {a : Nat} (h : Par K a) : isC K (a + 7) 20 8 := h.2.2.2.2.2.2.2.1
theorem Par_c8 {K : SK} {a : Nat} (h : Par K a) : isC K (a + 8) 20 64 := h.2.2.2.2.2.2.2.2.1
theorem Par_r4 {K : SK} {a : Nat} (h : Par K a) : K.2.2 a 4 = some (a + 1) := h.2.2.2.2.2.2.2.2.2.1
theorem Par_r5 {K : SK} {a : Nat} (h : Par K a) : K.2.2 a 5 = some (a + 2) := h.2.2.2.2.2.2.2.2.2.2.1
theorem Par_r6 {K : SK} {a : Nat} (h : Par K a) : K.2.2 a 6 = some (a + 3) := h.2.2.2.2.2.2.2.2.2.2.2.1
theorem Par_r7 {K : SK} {a : Nat} (h : Par K a) : K.2.2 a 7 = some (a + 4) := h.2.2.2.2.2.2.2.2.2.2.2.2.1
theorem Par_r8 {K : SK} {a : Nat} (h : Par K a) : K.2.2 a 8 = some (a + 5) := h.2.2.2.2.2.2.2.2.2.2.2.2.2.1
theorem Par_r9 {K : SK} {a : Nat} (h : Par K a) : K.2.2 a 9 = some (a + 6) := h.2.2.2.2.2.2.2.2.2.2.2.2.2.2.1
theorem Par_r10 {K : SK} {a : Nat} (h : Par K a) : K.2.2 a 10 = some (a + 7) := h.2.2.2.2.2.2.2.2.2.2.2.2.2.2.2.1
theorem Par_r11 {K : SK} {a : Nat} (h : Par K a) : K.2.2 a 11 = some (a + 8) := h.2.2.2.2.2.2.2.2.2.2.2.2.2.2.2.2
theorem lay_Par7 {K : SK} (h : Lay K) : Par K 7 := ⟨lay_c7 h, lay_c8 h, lay_c9 h, lay_c10 h, lay_c11 h, lay_c12 h, lay_c13 h, lay_c14 h, lay_c15 h, lay_r7_4 h, lay_r7_5 h, lay_r7_6 h, lay_r7_7 h, lay_r7_8 h, lay_r7_9 h, lay_r7_10 h, lay_r7_11 h⟩
theorem lay_Par23 {K : SK} (h : Lay K) : Par K 23 := ⟨lay_c23 h, lay_c24 h, lay_c25 h, lay_c26 h, lay_c27 h, lay_c28 h, lay_c29 h, lay_c30 h, lay_c31 h, lay_r23_4 h, lay_r23_5 h, lay_r23_6 h, lay_r23_7 h, lay_r23_8 h, lay_r23_9 h, lay_r23_10 h, lay_r23_11 h⟩
theorem lay_Par42 {K : SK} (h : Lay K) : Par K 42 := ⟨lay_c42 h, lay_c43 h, lay_c44 h, lay_c45 h, lay_c46 h, lay_c47 h, lay_c48 h, lay_c49 h, lay_c50 h, lay_r42_4 h, lay_r42_5 h, lay_r42_6 h, lay_r42_7 h, lay_r42_8 h, lay_r42_9 h, lay_r42_10 h, lay_r42_11 h⟩
theorem lay_Par61 {K : SK} (h : Lay K) : Par K 61 := ⟨lay_c61 h, lay_c62 h, lay_c63 h, lay_c64 h, lay_c65 h, lay_c66 h, lay_c67 h, lay_c68 h, lay_c69 h, lay_r61_4 h, lay_r61_5 h, lay_r61_6 h, lay_r61_7 h, lay_r61_8 h, lay_r61_9 h, lay_r61_10 h, lay_r61_11 h⟩
theorem Lw_o {K : SK} {a : Nat} (h : Lw K a) : isC K a 4 0 := h
theorem lay_Lw16 {K : SK} (h : Lay K) : Lw K 16 := lay_c16 h
theorem lay_Lw32 {K : SK} (h : Lay K) : Lw K 32 := lay_c32 h
theorem lay_Lw51 {K : SK} (h : Lay K) : Lw K 51 := lay_c51 h
theorem Ev_o {K : SK} {a : Nat} (h : Ev K a) : isC K a 2 0 := h.1
theorem Ev_c1 {K : SK} {a : Nat} (h : Ev K a) : isC K (a + 1) 20 40 := h.2.1
theorem Ev_c2 {K : SK} {a : Nat} (h : Ev K a) : isC K (a + 2) 20 40 := h.2.2.1
theorem Ev_c3 {K : SK} {a : Nat} (h : Ev K a) : isC K (a + 3) 20 40 := h.2.2.2.1
theorem Ev_r1 {K : SK} {a : Nat} (h : Ev K a) : K.2.2 a 1 = some (a + 1) := h.2.2.2.2.1
theorem Ev_r2 {K : SK} {a : Nat} (h : Ev K a) : K.2.2 a 2 = some (a + 2) := h.2.2.2.2.2.1
theorem Ev_r3 {K : SK} {a : Nat} (h : Ev K a) : K.2.2 a 3 = some (a + 3) := h.2.2.2.2.2.2
theorem lay_Ev17 {K : SK} (h : Lay K) : Ev K 17 := ⟨lay_c17 h, lay_c18 h, lay_c19 h, lay_c20 h, lay_r17_1 h, lay_r17_2 h, lay_r17_3 h⟩
theorem lay_Ev33 {K : SK} (h : Lay K) : Ev K 33 := ⟨lay_c33 h, lay_c34 h, lay_c35 h, lay_c36 h, lay_r33_1 h, lay_r33_2 h, lay_r33_3 h⟩
theorem lay_Ev52 {K : SK} (h : Lay K) : Ev K 52 := ⟨lay_c52 h, lay_c53 h, lay_c54 h, lay_c55 h, lay_r52_1 h, lay_r52_2 h, lay_r52_3 h⟩
theorem Sg_o {K : SK} {a : Nat} (h : Sg K a) : isC K a 8 0 := h.1
theorem Sg_c1 {K : SK} {a : Nat} (h : Sg K a) : isC K (a + 1) 20 8 := h.2.1
theorem Sg_r1 {K : SK} {a : Nat} (h : Sg K a) : K.2.2 a 1 = some (a + 1) := h.2.2
theorem lay_Sg21 {K : SK} (h : Lay K) : Sg K 21 := ⟨lay_c21 h, lay_c22 h, lay_r21_1 h⟩
theorem lay_Sg37 {K : SK} (h : Lay K) : Sg K 37 := ⟨lay_c37 h, lay_c38 h, lay_r37_1 h⟩
theorem lay_Sg56 {K : SK} (h : Lay K) : Sg K 56 := ⟨lay_c56 h, lay_c57 h, lay_r56_1 h⟩
theorem Td_c0 {K : SK} {a : Nat} (h : Td K a) : isC K (a + 0) 9 0 := h.1 0 (by decide)
theorem Td_c1 {K : SK} {a : Nat} (h : Td K a) : isC K (a + 1) 20 4 := h.1 1 (by decide)
theorem Td_c2 {K : SK} {a : Nat} (h : Td K a) : isC K (a + 2) 24 2 := h.1 2 (by decide)
theorem Td_c3 {K : SK} {a : Nat} (h : Td K a) : isC K (a + 3) 25 2 := h.1 3 (by decide)
theorem Td_c4 {K : SK} {a : Nat} (h : Td K a) : isC K (a + 4) 26 2 := h.1 4 (by decide)
theorem Td_c5 {K : SK} {a : Nat} (h : Td K a) : isC K (a + 5) 27 2 := h.1 5 (by decide)
theorem Td_c6 {K : SK} {a : Nat} (h : Td K a) : isC K (a + 6) 5 0 := h.1 6 (by decide)
theorem Td_c7 {K : SK} {a : Nat} (h : Td K a) : isC K (a + 7) 20 8 := h.1 7 (by decide)
theorem Td_c8 {K : SK} {a : Nat} (h : Td K a) : isC K (a + 8) 20 8 := h.1 8 (by decide)
theorem Td_c9 {K : SK} {a : Nat} (h : Td K a) : isC K (a + 9) 20 8 := h.1 9 (by decide)
theorem Td_c10 {K : SK} {a : Nat} (h : Td K a) : isC K (a + 10) 20 8 := h.1 10 (by decide)
theorem Td_c11 {K : SK} {a : Nat} (h : Td K a) : isC K (a + 11) 20 8 := h.1 11 (by decide)
theorem Td_c12 {K : SK} {a : Nat} (h : Td K a) : isC K (a + 12) 20 8 := h.1 12 (by decide)
theorem Td_c13 {K : SK} {a : Nat} (h : Td K a) : isC K (a + 13) 20 8 := h.1 13 (by decide)
theorem Td_c14 {K : SK} {a : Nat} (h : Td K a) : isC K (a + 14) 20 64 := h.1 14 (by decide)
theorem Td_c15 {K : SK} {a : Nat} (h : Td K a) : isC K (a + 15) 4 0 := h.1 15 (by decide)
theorem Td_c16 {K : SK} {a : Nat} (h : Td K a) : isC K (a + 16) 2 0 := h.1 16 (by decide)
theorem Td_c17 {K : SK} {a : Nat} (h : Td K a) : isC K (a + 17) 20 40 := h.1 17 (by decide)
theorem Td_c18 {K : SK} {a : Nat} (h : Td K a) : isC K (a + 18) 20 40 := h.1 18 (by decide)
theorem Td_c19 {K : SK} {a : Nat} (h : Td K a) : isC K (a + 19) 20 40 := h.1 19 (by decide)
theorem Td_c20 {K : SK} {a : Nat} (h : Td K a) : isC K (a + 20) 8 0 := h.1 20 (by decide)
theorem Td_c21 {K : SK} {a : Nat} (h : Td K a) : isC K (a + 21) 20 8 := h.1 21 (by decide)
theorem Td_c22 {K : SK} {a : Nat} (h : Td K a) : isC K (a + 22) 5 0 := h.1 22 (by decide)
theorem Td_c23 {K : SK} {a : Nat} (h : Td K a) : isC K (a + 23) 20 8 := h.1 23 (by decide)
theorem Td_c24 {K : SK} {a : Nat} (h : Td K a) : isC K (a + 24) 20 8 := h.1 24 (by decide)
theorem Td_c25 {K : SK} {a : Nat} (h : Td K a) : isC K (a + 25) 20 8 := h.1 25 (by decide)
theorem Td_c26 {K : SK} {a : Nat} (h : Td K a) : isC K (a + 26) 20 8 := h.1 26 (by decide)
theorem Td_c27 {K : SK} {a : Nat} (h : Td K a) : isC K (a + 27) 20 8 := h.1 27 (by decide)
theorem Td_c28 {K : SK} {a : Nat} (h : Td K a) : isC K (a + 28) 20 8 := h.1 28 (by decide)
theorem Td_c29 {K : SK} {a : Nat} (h : Td K a) : isC K (a + 29) 20 8 := h.1 29 (by decide)
theorem Td_c30 {K : SK} {a : Nat} (h : Td K a) : isC K (a + 30) 20 64 := h.1 30 (by decide)
theorem Td_c31 {K : SK} {a : Nat} (h : Td K a) : isC K (a + 31) 4 0 := h.1 31 (by decide)
theorem Td_c32 {K : SK} {a : Nat} (h : Td K a) : isC K (a + 32) 2 0 := h.1 32 (by decide)
theorem Td_c33 {K : SK} {a : Nat} (h : Td K a) : isC K (a + 33) 20 40 := h.1 33 (by decide)
theorem Td_c34 {K : SK} {a : Nat} (h : Td K a) : isC K (a + 34) 20 40 := h.1 34 (by decide)
theorem Td_c35 {K : SK} {a : Nat} (h : Td K a) : isC K (a + 35) 20 40 := h.1 35 (by decide)
theorem Td_c36 {K : SK} {a : Nat} (h : Td K a) : isC K (a + 36) 8 0 := h.1 36 (by decide)
theorem Td_c37 {K : SK} {a : Nat} (h : Td K a) : isC K (a + 37) 20 8 := h.1 37 (by decide)
theorem Td_c38 {K : SK} {a : Nat} (h : Td K a) : isC K (a + 38) 22 600 := h.1 38 (by decide)
theorem Td_o {K : SK} {a : Nat} (h : Td K a) : isC K a 9 0 := h.1 0 (by decide)
theorem Td_r0_0 {K : SK} {a : Nat} (h : Td K a) : K.2.2 (a) 0 = some (a + 1) := h.2 (0, 0, 1) (List.mem_of_getElem? (i := 0) rfl)
theorem Td_r0_1 {K : SK} {a : Nat} (h : Td K a) : K.2.2 (a) 1 = some (a + 2) := h.2 (0, 1, 2) (List.mem_of_getElem? (i := 1) rfl)
theorem Td_r0_2 {K : SK} {a : Nat} (h : Td K a) : K.2.2 (a) 2 = some (a + 3) := h.2 (0, 2, 3) (List.mem_of_getElem? (i := 2) rfl)
theorem Td_r0_3 {K : SK} {a : Nat} (h : Td K a) : K.2.2 (a) 3 = some (a + 4) := h.2 (0, 3, 4) (List.mem_of_getElem? (i := 3) rfl)
theorem Td_r0_4 {K : SK} {a : Nat} (h : Td K a) : K.2.2 (a) 4 = some (a + 5) := h.2 (0, 4, 5) (List.mem_of_getElem? (i := 4) rfl)
theorem Td_r0_5 {K : SK} {a : Nat} (h : Td K a) : K.2.2 (a) 5 = some (a + 38) := h.2 (0, 5, 38) (List.mem_of_getElem? (i := 5) rfl)
theorem Td_r2_0 {K : SK} {a : Nat} (h : Td K a) : K.2.2 (a + 2) 0 = some (a + 6) := h.2 (2, 0, 6) (List.mem_of_getElem? (i := 6) rfl)
theorem Td_r2_1 {K : SK} {a : Nat} (h : Td K a) : K.2.2 (a + 2) 1 = some (a + 22) := h.2 (2, 1, 22) (List.mem_of_getElem? (i := 7) rfl)
theorem Td_r3_0 {K : SK} {a : Nat} (h : Td K a) : K.2.2 (a + 3) 0 = some (a + 15) := h.2 (3, 0, 15) (List.mem_of_getElem? (i := 8) rfl)
theorem Td_r3_1 {K : SK} {a : Nat} (h : Td K a) : K.2.2 (a + 3) 1 = some (a + 31) := h.2 (3, 1, 31) (List.mem_of_getElem? (i := 9) rfl)
theorem Td_r4_0 {K : SK} {a : Nat} (h : Td K a) : K.2.2 (a + 4) 0 = some (a + 16) := h.2 (4, 0, 16) (List.mem_of_getElem? (i := 10) rfl)
theorem Td_r4_1 {K : SK} {a : Nat} (h : Td K a) : K.2.2 (a + 4) 1 = some (a + 32) := h.2 (4, 1, 32) (List.mem_of_getElem? (i := 11) rfl)
theorem Td_r5_0 {K : SK} {a : Nat} (h : Td K a) : K.2.2 (a + 5) 0 = some (a + 20) := h.2 (5, 0, 20) (List.mem_of_getElem? (i := 12) rfl)
theorem Td_r5_1 {K : SK} {a : Nat} (h : Td K a) : K.2.2 (a + 5) 1 = some (a + 36) := h.2 (5, 1, 36) (List.mem_of_getElem? (i := 13) rfl)
theorem Td_r6_4 {K : SK} {a : Nat} (h : Td K a) : K.2.2 (a + 6) 4 = some (a + 7) := h.2 (6, 4, 7) (List.mem_of_getElem? (i := 14) rfl)
theorem Td_r6_5 {K : SK} {a : Nat} (h : Td K a) : K.2.2 (a + 6) 5 = some (a + 8) := h.2 (6, 5, 8) (List.mem_of_getElem? (i := 15) rfl)
theorem Td_r6_6 {K : SK} {a : Nat} (h : Td K a) : K.2.2 (a + 6) 6 = some (a + 9) := h.2 (6, 6, 9) (List.mem_of_getElem? (i := 16) rfl)
theorem Td_r6_7 {K : SK} {a : Nat} (h : Td K a) : K.2.2 (a + 6) 7 = some (a + 10) := h.2 (6, 7, 10) (List.mem_of_getElem? (i := 17) rfl)
theorem Td_r6_8 {K : SK} {a : Nat} (h : Td K a) : K.2.2 (a + 6) 8 = some (a + 11) := h.2 (6, 8, 11) (List.mem_of_getElem? (i := 18) rfl)
theorem Td_r6_9 {K : SK} {a : Nat} (h : Td K a) : K.2.2 (a + 6) 9 = some (a + 12) := h.2 (6, 9, 12) (List.mem_of_getElem? (i := 19) rfl)
theorem Td_r6_10 {K : SK} {a : Nat} (h : Td K a) : K.2.2 (a + 6) 10 = some (a + 13) := h.2 (6, 10, 13) (List.mem_of_getElem? (i := 20) rfl)
theorem Td_r6_11 {K : SK} {a : Nat} (h : Td K a) : K.2.2 (a + 6) 11 = some (a + 14) := h.2 (6, 11, 14) (List.mem_of_getElem? (i := 21) rfl)
theorem Td_r16_1 {K : SK} {a : Nat} (h : Td K a) : K.2.2 (a + 16) 1 = some (a + 17) := h.2 (16, 1, 17) (List.mem_of_getElem? (i := 22) rfl)
theorem Td_r16_2 {K : SK} {a : Nat} (h : Td K a) : K.2.2 (a + 16) 2 = some (a + 18) := h.2 (16, 2, 18) (List.mem_of_getElem? (i := 23) rfl)
theorem Td_r16_3 {K : SK} {a : Nat} (h : Td K a) : K.2.2 (a + 16) 3 = some (a + 19) := h.2 (16, 3, 19) (List.mem_of_getElem? (i := 24) rfl)
theorem Td_r20_1 {K : SK} {a : Nat} (h : Td K a) : K.2.2 (a + 20) 1 = some (a + 21) := h.2 (20, 1, 21) (List.mem_of_getElem? (i := 25) rfl)
theorem Td_r22_4 {K : SK} {a : Nat} (h : Td K a) : K.2.2 (a + 22) 4 = some (a + 23) := h.2 (22, 4, 23) (List.mem_of_getElem? (i := 26) rfl)
theorem Td_r22_5 {K : SK} {a : Nat} (h : Td K a) : K.2.2 (a + 22) 5 = some (a + 24) := h.2 (22, 5, 24) (List.mem_of_getElem? (i := 27) rfl)
theorem Td_r22_6 {K : SK} {a : Nat} (h : Td K a) : K.2.2 (a + 22) 6 = some (a + 25) := h.2 (22, 6, 25) (List.mem_of_getElem? (i := 28) rfl)
theorem Td_r22_7 {K : SK} {a : Nat} (h : Td K a) : K.2.2 (a + 22) 7 = some (a + 26) := h.2 (22, 7, 26) (List.mem_of_getElem? (i := 29) rfl)
theorem Td_r22_8 {K : SK} {a : Nat} (h : Td K a) : K.2.2 (a + 22) 8 = some (a + 27) := h.2 (22, 8, 27) (List.mem_of_getElem? (i := 30) rfl)
theorem Td_r22_9 {K : SK} {a : Nat} (h : Td K a) : K.2.2 (a + 22) 9 = some (a + 28) := h.2 (22, 9, 28) (List.mem_of_getElem? (i := 31) rfl)
theorem Td_r22_10 {K : SK} {a : Nat} (h : Td K a) : K.2.2 (a + 22) 10 = some (a + 29) := h.2 (22, 10, 29) (List.mem_of_getElem? (i := 32) rfl)
theorem Td_r22_11 {K : SK} {a : Nat} (h : Td K a) : K.2.2 (a + 22) 11 = some (a + 30) := h.2 (22, 11, 30) (List.mem_of_getElem? (i := 33) rfl)
theorem Td_r32_1 {K : SK} {a : Nat} (h : Td K a) : K.2.2 (a + 32) 1 = some (a + 33) := h.2 (32, 1, 33) (List.mem_of_getElem? (i := 34) rfl)
theorem Td_r32_2 {K : SK} {a : Nat} (h : Td K a) : K.2.2 (a + 32) 2 = some (a + 34) := h.2 (32, 2, 34) (List.mem_of_getElem? (i := 35) rfl)
theorem Td_r32_3 {K : SK} {a : Nat} (h : Td K a) : K.2.2 (a + 32) 3 = some (a + 35) := h.2 (32, 3, 35) (List.mem_of_getElem? (i := 36) rfl)
theorem Td_r36_1 {K : SK} {a : Nat} (h : Td K a) : K.2.2 (a + 36) 1 = some (a + 37) := h.2 (36, 1, 37) (List.mem_of_getElem? (i := 37) rfl)
theorem lay_Td1 {K : SK} (h : Lay K) : Td K 1 := by
  refine ⟨fun c hc => ⟨Nat.lt_of_lt_of_le (Nat.add_lt_add_left hc 1) (Nat.le_trans (by decide) h.1), ?_⟩, fun q hq => h.2.2 (1 + q.1, q.2.1, 1 + q.2.2) ?_⟩
  · rw [h.2.1 (1 + c) (by omega)]
    exact (show ∀ c, c < 39 → shT.getD (1 + c) (0, 0) = ((tdT.getD c (0, 0)).1, (tdT.getD c (0, 0)).2) by decide +kernel) c hc
  · exact (show ∀ q ∈ tdR, (1 + q.1, q.2.1, 1 + q.2.2) ∈ refT by decide +kernel) q hq
theorem Td_Par6 {K : SK} {a : Nat} (h : Td K a) : Par K (a + 6) := ⟨Td_c6 h, Td_c7 h, Td_c8 h, Td_c9 h, Td_c10 h, Td_c11 h, Td_c12 h, Td_c13 h, Td_c14 h, Td_r6_4 h, Td_r6_5 h, Td_r6_6 h, Td_r6_7 h, Td_r6_8 h, Td_r6_9 h, Td_r6_10 h, Td_r6_11 h⟩
theorem Td_Par22 {K : SK} {a : Nat} (h : Td K a) : Par K (a + 22) := ⟨Td_c22 h, Td_c23 h, Td_c24 h, Td_c25 h, Td_c26 h, Td_c27 h, Td_c28 h, Td_c29 h, Td_c30 h, Td_r22_4 h, Td_r22_5 h, Td_r22_6 h, Td_r22_7 h, Td_r22_8 h, Td_r22_9 h, Td_r22_10 h, Td_r22_11 h⟩
theorem Td_parishes {K : SK} {a : Nat} (h : Td K a) {i : Int32} (hi : vp_in i 2) : K.2.2 (a + 2) i.toNatClampNeg = some (a + (6 + 16 * ix i)) ∧ Par K (a + (6 + 16 * ix i)) := by
  obtain ⟨j, hj, rfl⟩ := vp_in_of hi (by decide)
  rcases (show j = 0 ∨ j = 1 by omega) with rfl | rfl
  · exact ⟨Td_r2_0 h, Td_Par6 h⟩
  · exact ⟨Td_r2_1 h, Td_Par22 h⟩
theorem Td_Lw15 {K : SK} {a : Nat} (h : Td K a) : Lw K (a + 15) := Td_c15 h
theorem Td_Lw31 {K : SK} {a : Nat} (h : Td K a) : Lw K (a + 31) := Td_c31 h
theorem Td_laws {K : SK} {a : Nat} (h : Td K a) {i : Int32} (hi : vp_in i 2) : K.2.2 (a + 3) i.toNatClampNeg = some (a + (15 + 16 * ix i)) ∧ Lw K (a + (15 + 16 * ix i)) := by
  obtain ⟨j, hj, rfl⟩ := vp_in_of hi (by decide)
  rcases (show j = 0 ∨ j = 1 by omega) with rfl | rfl
  · exact ⟨Td_r3_0 h, Td_Lw15 h⟩
  · exact ⟨Td_r3_1 h, Td_Lw31 h⟩
theorem Td_Ev16 {K : SK} {a : Nat} (h : Td K a) : Ev K (a + 16) := ⟨Td_c16 h, Td_c17 h, Td_c18 h, Td_c19 h, Td_r16_1 h, Td_r16_2 h, Td_r16_3 h⟩
theorem Td_Ev32 {K : SK} {a : Nat} (h : Td K a) : Ev K (a + 32) := ⟨Td_c32 h, Td_c33 h, Td_c34 h, Td_c35 h, Td_r32_1 h, Td_r32_2 h, Td_r32_3 h⟩
theorem Td_evenings {K : SK} {a : Nat} (h : Td K a) {i : Int32} (hi : vp_in i 2) : K.2.2 (a + 4) i.toNatClampNeg = some (a + (16 + 16 * ix i)) ∧ Ev K (a + (16 + 16 * ix i)) := by
  obtain ⟨j, hj, rfl⟩ := vp_in_of hi (by decide)
  rcases (show j = 0 ∨ j = 1 by omega) with rfl | rfl
  · exact ⟨Td_r4_0 h, Td_Ev16 h⟩
  · exact ⟨Td_r4_1 h, Td_Ev32 h⟩
theorem Td_Sg20 {K : SK} {a : Nat} (h : Td K a) : Sg K (a + 20) := ⟨Td_c20 h, Td_c21 h, Td_r20_1 h⟩
theorem Td_Sg36 {K : SK} {a : Nat} (h : Td K a) : Sg K (a + 36) := ⟨Td_c36 h, Td_c37 h, Td_r36_1 h⟩
theorem Td_sights {K : SK} {a : Nat} (h : Td K a) {i : Int32} (hi : vp_in i 2) : K.2.2 (a + 5) i.toNatClampNeg = some (a + (20 + 16 * ix i)) ∧ Sg K (a + (20 + 16 * ix i)) := by
  obtain ⟨j, hj, rfl⟩ := vp_in_of hi (by decide)
  rcases (show j = 0 ∨ j = 1 by omega) with rfl | rfl
  · exact ⟨Td_r5_0 h, Td_Sg20 h⟩
  · exact ⟨Td_r5_1 h, Td_Sg36 h⟩
theorem ok_X0 : clOk 0 RX0 TX0 := ⟨rfl, by decide +kernel, by decide +kernel, by decide +kernel, by decide⟩
theorem ok_X1 : clOk 1 RX1 TX1 := ⟨rfl, by decide +kernel, by decide +kernel, by decide +kernel, by decide⟩
theorem ok_X2 : clOk 2 RX2 TX2 := ⟨rfl, by decide +kernel, by decide +kernel, by decide +kernel, by decide⟩
theorem ok_X3 : clOk 3 RX3 TX3 := ⟨rfl, by decide +kernel, by decide +kernel, by decide +kernel, by decide⟩
theorem ok_X4 : clOk 4 RX4 TX4 := ⟨rfl, by decide +kernel, by decide +kernel, by decide +kernel, by decide⟩
theorem ok_X5 : clOk 5 RX5 TX5 := ⟨rfl, by decide +kernel, by decide +kernel, by decide +kernel, by decide⟩
theorem ok_X6 : clOk 6 RX6 TX6 := ⟨rfl, by decide +kernel, by decide +kernel, by decide +kernel, by decide⟩
theorem ok_X7 : clOk 7 RX7 TX7 := ⟨rfl, by decide +kernel, by decide +kernel, by decide +kernel, by decide⟩
theorem ok_X8 : clOk 8 RX8 TX8 := ⟨rfl, by decide +kernel, by decide +kernel, by decide +kernel, by decide⟩
theorem ok_X9 : clOk 9 RX9 TX9 := ⟨rfl, by decide +kernel, by decide +kernel, by decide +kernel, by decide⟩
theorem ok_X10 : clOk 10 RX10 TX10 := ⟨rfl, by decide +kernel, by decide +kernel, by decide +kernel, by decide⟩
theorem ok_X11 : clOk 11 RX11 TX11 := ⟨rfl, by decide +kernel, by decide +kernel, by decide +kernel, by decide⟩
theorem ok_X12 : clOk 12 RX12 TX12 := ⟨rfl, by decide +kernel, by decide +kernel, by decide +kernel, by decide⟩
