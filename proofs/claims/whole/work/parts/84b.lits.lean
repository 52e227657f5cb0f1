section
theorem a0 {b : Nat} (hb : b < 2147483648) : decide ((0 : Int32) ≤ Int32.ofNat b) = decide (0 ≤ b) := n_dle (a := 0) (by decide) hb
theorem a1 {b : Nat} (hb : b < 2147483648) : decide ((1 : Int32) ≤ Int32.ofNat b) = decide (1 ≤ b) := n_dle (a := 1) (by decide) hb
theorem a2 {b : Nat} (hb : b < 2147483648) : decide ((2 : Int32) ≤ Int32.ofNat b) = decide (2 ≤ b) := n_dle (a := 2) (by decide) hb
theorem a3 {b : Nat} (hb : b < 2147483648) : decide ((3 : Int32) ≤ Int32.ofNat b) = decide (3 ≤ b) := n_dle (a := 3) (by decide) hb
theorem a4 {b : Nat} (hb : b < 2147483648) : decide ((4 : Int32) ≤ Int32.ofNat b) = decide (4 ≤ b) := n_dle (a := 4) (by decide) hb
theorem a5 {b : Nat} (hb : b < 2147483648) : decide ((5 : Int32) ≤ Int32.ofNat b) = decide (5 ≤ b) := n_dle (a := 5) (by decide) hb
theorem a6 {b : Nat} (hb : b < 2147483648) : decide ((6 : Int32) ≤ Int32.ofNat b) = decide (6 ≤ b) := n_dle (a := 6) (by decide) hb
theorem a7 {b : Nat} (hb : b < 2147483648) : decide ((7 : Int32) ≤ Int32.ofNat b) = decide (7 ≤ b) := n_dle (a := 7) (by decide) hb
theorem a8 {b : Nat} (hb : b < 2147483648) : decide ((8 : Int32) ≤ Int32.ofNat b) = decide (8 ≤ b) := n_dle (a := 8) (by decide) hb
theorem a9 {b : Nat} (hb : b < 2147483648) : decide ((9 : Int32) ≤ Int32.ofNat b) = decide (9 ≤ b) := n_dle (a := 9) (by decide) hb
theorem a10 {b : Nat} (hb : b < 2147483648) : decide ((10 : Int32) ≤ Int32.ofNat b) = decide (10 ≤ b) := n_dle (a := 10) (by decide) hb
theorem a11 {b : Nat} (hb : b < 2147483648) : decide ((11 : Int32) ≤ Int32.ofNat b) = decide (11 ≤ b) := n_dle (a := 11) (by decide) hb
theorem a12 {b : Nat} (hb : b < 2147483648) : decide ((12 : Int32) ≤ Int32.ofNat b) = decide (12 ≤ b) := n_dle (a := 12) (by decide) hb
theorem a13 {b : Nat} (hb : b < 2147483648) : decide ((13 : Int32) ≤ Int32.ofNat b) = decide (13 ≤ b) := n_dle (a := 13) (by decide) hb
theorem a20 {b : Nat} (hb : b < 2147483648) : decide ((20 : Int32) ≤ Int32.ofNat b) = decide (20 ≤ b) := n_dle (a := 20) (by decide) hb
theorem a24 {b : Nat} (hb : b < 2147483648) : decide ((24 : Int32) ≤ Int32.ofNat b) = decide (24 ≤ b) := n_dle (a := 24) (by decide) hb
theorem a60 {b : Nat} (hb : b < 2147483648) : decide ((60 : Int32) ≤ Int32.ofNat b) = decide (60 ≤ b) := n_dle (a := 60) (by decide) hb
theorem a64 {b : Nat} (hb : b < 2147483648) : decide ((64 : Int32) ≤ Int32.ofNat b) = decide (64 ≤ b) := n_dle (a := 64) (by decide) hb
theorem a84 {b : Nat} (hb : b < 2147483648) : decide ((84 : Int32) ≤ Int32.ofNat b) = decide (84 ≤ b) := n_dle (a := 84) (by decide) hb
theorem a99 {b : Nat} (hb : b < 2147483648) : decide ((99 : Int32) ≤ Int32.ofNat b) = decide (99 ≤ b) := n_dle (a := 99) (by decide) hb
theorem a100 {b : Nat} (hb : b < 2147483648) : decide ((100 : Int32) ≤ Int32.ofNat b) = decide (100 ≤ b) := n_dle (a := 100) (by decide) hb
theorem a600 {b : Nat} (hb : b < 2147483648) : decide ((600 : Int32) ≤ Int32.ofNat b) = decide (600 ≤ b) := n_dle (a := 600) (by decide) hb
theorem a720 {b : Nat} (hb : b < 2147483648) : decide ((720 : Int32) ≤ Int32.ofNat b) = decide (720 ≤ b) := n_dle (a := 720) (by decide) hb
theorem a4096 {b : Nat} (hb : b < 2147483648) : decide ((4096 : Int32) ≤ Int32.ofNat b) = decide (4096 ≤ b) := n_dle (a := 4096) (by decide) hb
theorem a1000000 {b : Nat} (hb : b < 2147483648) : decide ((1000000 : Int32) ≤ Int32.ofNat b) = decide (1000000 ≤ b) := n_dle (a := 1000000) (by decide) hb
theorem b0 {b : Nat} (hb : b < 2147483648) : decide (Int32.ofNat b ≤ (0 : Int32)) = decide (b ≤ 0) := n_dle (b := 0) hb (by decide)
theorem b1 {b : Nat} (hb : b < 2147483648) : decide (Int32.ofNat b ≤ (1 : Int32)) = decide (b ≤ 1) := n_dle (b := 1) hb (by decide)
theorem b2 {b : Nat} (hb : b < 2147483648) : decide (Int32.ofNat b ≤ (2 : Int32)) = decide (b ≤ 2) := n_dle (b := 2) hb (by decide)
theorem b3 {b : Nat} (hb : b < 2147483648) : decide (Int32.ofNat b ≤ (3 : Int32)) = decide (b ≤ 3) := n_dle (b := 3) hb (by decide)
theorem b4 {b : Nat} (hb : b < 2147483648) : decide (Int32.ofNat b ≤ (4 : Int32)) = decide (b ≤ 4) := n_dle (b := 4) hb (by decide)
theorem b5 {b : Nat} (hb : b < 2147483648) : decide (Int32.ofNat b ≤ (5 : Int32)) = decide (b ≤ 5) := n_dle (b := 5) hb (by decide)
theorem b6 {b : Nat} (hb : b < 2147483648) : decide (Int32.ofNat b ≤ (6 : Int32)) = decide (b ≤ 6) := n_dle (b := 6) hb (by decide)
theorem b7 {b : Nat} (hb : b < 2147483648) : decide (Int32.ofNat b ≤ (7 : Int32)) = decide (b ≤ 7) := n_dle (b := 7) hb (by decide)
theorem b8 {b : Nat} (hb : b < 2147483648) : decide (Int32.ofNat b ≤ (8 : Int32)) = decide (b ≤ 8) := n_dle (b := 8) hb (by decide)
theorem b9 {b : Nat} (hb : b < 2147483648) : decide (Int32.ofNat b ≤ (9 : Int32)) = decide (b ≤ 9) := n_dle (b := 9) hb (by decide)
theorem b10 {b : Nat} (hb : b < 2147483648) : decide (Int32.ofNat b ≤ (10 : Int32)) = decide (b ≤ 10) := n_dle (b := 10) hb (by decide)
theorem b11 {b : Nat} (hb : b < 2147483648) : decide (Int32.ofNat b ≤ (11 : Int32)) = decide (b ≤ 11) := n_dle (b := 11) hb (by decide)
theorem b12 {b : Nat} (hb : b < 2147483648) : decide (Int32.ofNat b ≤ (12 : Int32)) = decide (b ≤ 12) := n_dle (b := 12) hb (by decide)
theorem b13 {b : Nat} (hb : b < 2147483648) : decide (Int32.ofNat b ≤ (13 : Int32)) = decide (b ≤ 13) := n_dle (b := 13) hb (by decide)
theorem b20 {b : Nat} (hb : b < 2147483648) : decide (Int32.ofNat b ≤ (20 : Int32)) = decide (b ≤ 20) := n_dle (b := 20) hb (by decide)
theorem b24 {b : Nat} (hb : b < 2147483648) : decide (Int32.ofNat b ≤ (24 : Int32)) = decide (b ≤ 24) := n_dle (b := 24) hb (by decide)
theorem b60 {b : Nat} (hb : b < 2147483648) : decide (Int32.ofNat b ≤ (60 : Int32)) = decide (b ≤ 60) := n_dle (b := 60) hb (by decide)
theorem b64 {b : Nat} (hb : b < 2147483648) : decide (Int32.ofNat b ≤ (64 : Int32)) = decide (b ≤ 64) := n_dle (b := 64) hb (by decide)
theorem b84 {b : Nat} (hb : b < 2147483648) : decide (Int32.ofNat b ≤ (84 : Int32)) = decide (b ≤ 84) := n_dle (b := 84) hb (by decide)
theorem b99 {b : Nat} (hb : b < 2147483648) : decide (Int32.ofNat b ≤ (99 : Int32)) = decide (b ≤ 99) := n_dle (b := 99) hb (by decide)
theorem b100 {b : Nat} (hb : b < 2147483648) : decide (Int32.ofNat b ≤ (100 : Int32)) = decide (b ≤ 100) := n_dle (b := 100) hb (by decide)
theorem b600 {b : Nat} (hb : b < 2147483648) : decide (Int32.ofNat b ≤ (600 : Int32)) = decide (b ≤ 600) := n_dle (b := 600) hb (by decide)
theorem b720 {b : Nat} (hb : b < 2147483648) : decide (Int32.ofNat b ≤ (720 : Int32)) = decide (b ≤ 720) := n_dle (b := 720) hb (by decide)
theorem b4096 {b : Nat} (hb : b < 2147483648) : decide (Int32.ofNat b ≤ (4096 : Int32)) = decide (b ≤ 4096) := n_dle (b := 4096) hb (by decide)
theorem b1000000 {b : Nat} (hb : b < 2147483648) : decide (Int32.ofNat b ≤ (1000000 : Int32)) = decide (b ≤ 1000000) := n_dle (b := 1000000) hb (by decide)
theorem c0 {b : Nat} (hb : b < 2147483648) : decide ((0 : Int32) < Int32.ofNat b) = decide (0 < b) := n_dlt (a := 0) (by decide) hb
theorem c1 {b : Nat} (hb : b < 2147483648) : decide ((1 : Int32) < Int32.ofNat b) = decide (1 < b) := n_dlt (a := 1) (by decide) hb
theorem c2 {b : Nat} (hb : b < 2147483648) : decide ((2 : Int32) < Int32.ofNat b) = decide (2 < b) := n_dlt (a := 2) (by decide) hb
theorem c3 {b : Nat} (hb : b < 2147483648) : decide ((3 : Int32) < Int32.ofNat b) = decide (3 < b) := n_dlt (a := 3) (by decide) hb
theorem c4 {b : Nat} (hb : b < 2147483648) : decide ((4 : Int32) < Int32.ofNat b) = decide (4 < b) := n_dlt (a := 4) (by decide) hb
theorem c5 {b : Nat} (hb : b < 2147483648) : decide ((5 : Int32) < Int32.ofNat b) = decide (5 < b) := n_dlt (a := 5) (by decide) hb
theorem c6 {b : Nat} (hb : b < 2147483648) : decide ((6 : Int32) < Int32.ofNat b) = decide (6 < b) := n_dlt (a := 6) (by decide) hb
theorem c7 {b : Nat} (hb : b < 2147483648) : decide ((7 : Int32) < Int32.ofNat b) = decide (7 < b) := n_dlt (a := 7) (by decide) hb
theorem c8 {b : Nat} (hb : b < 2147483648) : decide ((8 : Int32) < Int32.ofNat b) = decide (8 < b) := n_dlt (a := 8) (by decide) hb
theorem c9 {b : Nat} (hb : b < 2147483648) : decide ((9 : Int32) < Int32.ofNat b) = decide (9 < b) := n_dlt (a := 9) (by decide) hb
theorem c10 {b : Nat} (hb : b < 2147483648) : decide ((10 : Int32) < Int32.ofNat b) = decide (10 < b) := n_dlt (a := 10) (by decide) hb
theorem c11 {b : Nat} (hb : b < 2147483648) : decide ((11 : Int32) < Int32.ofNat b) = decide (11 < b) := n_dlt (a := 11) (by decide) hb
theorem c12 {b : Nat} (hb : b < 2147483648) : decide ((12 : Int32) < Int32.ofNat b) = decide (12 < b) := n_dlt (a := 12) (by decide) hb
theorem c13 {b : Nat} (hb : b < 2147483648) : decide ((13 : Int32) < Int32.ofNat b) = decide (13 < b) := n_dlt (a := 13) (by decide) hb
theorem c20 {b : Nat} (hb : b < 2147483648) : decide ((20 : Int32) < Int32.ofNat b) = decide (20 < b) := n_dlt (a := 20) (by decide) hb
theorem c24 {b : Nat} (hb : b < 2147483648) : decide ((24 : Int32) < Int32.ofNat b) = decide (24 < b) := n_dlt (a := 24) (by decide) hb
theorem c60 {b : Nat} (hb : b < 2147483648) : decide ((60 : Int32) < Int32.ofNat b) = decide (60 < b) := n_dlt (a := 60) (by decide) hb
theorem c64 {b : Nat} (hb : b < 2147483648) : decide ((64 : Int32) < Int32.ofNat b) = decide (64 < b) := n_dlt (a := 64) (by decide) hb
theorem c84 {b : Nat} (hb : b < 2147483648) : decide ((84 : Int32) < Int32.ofNat b) = decide (84 < b) := n_dlt (a := 84) (by decide) hb
theorem c99 {b : Nat} (hb : b < 2147483648) : decide ((99 : Int32) < Int32.ofNat b) = decide (99 < b) := n_dlt (a := 99) (by decide) hb
theorem c100 {b : Nat} (hb : b < 2147483648) : decide ((100 : Int32) < Int32.ofNat b) = decide (100 < b) := n_dlt (a := 100) (by decide) hb
theorem c600 {b : Nat} (hb : b < 2147483648) : decide ((600 : Int32) < Int32.ofNat b) = decide (600 < b) := n_dlt (a := 600) (by decide) hb
theorem c720 {b : Nat} (hb : b < 2147483648) : decide ((720 : Int32) < Int32.ofNat b) = decide (720 < b) := n_dlt (a := 720) (by decide) hb
theorem c4096 {b : Nat} (hb : b < 2147483648) : decide ((4096 : Int32) < Int32.ofNat b) = decide (4096 < b) := n_dlt (a := 4096) (by decide) hb
theorem c1000000 {b : Nat} (hb : b < 2147483648) : decide ((1000000 : Int32) < Int32.ofNat b) = decide (1000000 < b) := n_dlt (a := 1000000) (by decide) hb
theorem e0 {b : Nat} (hb : b < 2147483648) : decide (Int32.ofNat b < (0 : Int32)) = decide (b < 0) := n_dlt (b := 0) hb (by decide)
theorem e1 {b : Nat} (hb : b < 2147483648) : decide (Int32.ofNat b < (1 : Int32)) = decide (b < 1) := n_dlt (b := 1) hb (by decide)
theorem e2 {b : Nat} (hb : b < 2147483648) : decide (Int32.ofNat b < (2 : Int32)) = decide (b < 2) := n_dlt (b := 2) hb (by decide)
theorem e3 {b : Nat} (hb : b < 2147483648) : decide (Int32.ofNat b < (3 : Int32)) = decide (b < 3) := n_dlt (b := 3) hb (by decide)
theorem e4 {b : Nat} (hb : b < 2147483648) : decide (Int32.ofNat b < (4 : Int32)) = decide (b < 4) := n_dlt (b := 4) hb (by decide)
theorem e5 {b : Nat} (hb : b < 2147483648) : decide (Int32.ofNat b < (5 : Int32)) = decide (b < 5) := n_dlt (b := 5) hb (by decide)
theorem e6 {b : Nat} (hb : b < 2147483648) : decide (Int32.ofNat b < (6 : Int32)) = decide (b < 6) := n_dlt (b := 6) hb (by decide)
theorem e7 {b : Nat} (hb : b < 2147483648) : decide (Int32.ofNat b < (7 : Int32)) = decide (b < 7) := n_dlt (b := 7) hb (by decide)
theorem e8 {b : Nat} (hb : b < 2147483648) : decide (Int32.ofNat b < (8 : Int32)) = decide (b < 8) := n_dlt (b := 8) hb (by decide)
theorem e9 {b : Nat} (hb : b < 2147483648) : decide (Int32.ofNat b < (9 : Int32)) = decide (b < 9) := n_dlt (b := 9) hb (by decide)
theorem e10 {b : Nat} (hb : b < 2147483648) : decide (Int32.ofNat b < (10 : Int32)) = decide (b < 10) := n_dlt (b := 10) hb (by decide)
theorem e11 {b : Nat} (hb : b < 2147483648) : decide (Int32.ofNat b < (11 : Int32)) = decide (b < 11) := n_dlt (b := 11) hb (by decide)
theorem e12 {b : Nat} (hb : b < 2147483648) : decide (Int32.ofNat b < (12 : Int32)) = decide (b < 12) := n_dlt (b := 12) hb (by decide)
theorem e13 {b : Nat} (hb : b < 2147483648) : decide (Int32.ofNat b < (13 : Int32)) = decide (b < 13) := n_dlt (b := 13) hb (by decide)
theorem e20 {b : Nat} (hb : b < 2147483648) : decide (Int32.ofNat b < (20 : Int32)) = decide (b < 20) := n_dlt (b := 20) hb (by decide)
theorem e24 {b : Nat} (hb : b < 2147483648) : decide (Int32.ofNat b < (24 : Int32)) = decide (b < 24) := n_dlt (b := 24) hb (by decide)
theorem e60 {b : Nat} (hb : b < 2147483648) : decide (Int32.ofNat b < (60 : Int32)) = decide (b < 60) := n_dlt (b := 60) hb (by decide)
theorem e64 {b : Nat} (hb : b < 2147483648) : decide (Int32.ofNat b < (64 : Int32)) = decide (b < 64) := n_dlt (b := 64) hb (by decide)
theorem e84 {b : Nat} (hb : b < 2147483648) : decide (Int32.ofNat b < (84 : Int32)) = decide (b < 84) := n_dlt (b := 84) hb (by decide)
theorem e99 {b : Nat} (hb : b < 2147483648) : decide (Int32.ofNat b < (99 : Int32)) = decide (b < 99) := n_dlt (b := 99) hb (by decide)
theorem e100 {b : Nat} (hb : b < 2147483648) : decide (Int32.ofNat b < (100 : Int32)) = decide (b < 100) := n_dlt (b := 100) hb (by decide)
theorem e600 {b : Nat} (hb : b < 2147483648) : decide (Int32.ofNat b < (600 : Int32)) = decide (b < 600) := n_dlt (b := 600) hb (by decide)
theorem e720 {b : Nat} (hb : b < 2147483648) : decide (Int32.ofNat b < (720 : Int32)) = decide (b < 720) := n_dlt (b := 720) hb (by decide)
theorem e4096 {b : Nat} (hb : b < 2147483648) : decide (Int32.ofNat b < (4096 : Int32)) = decide (b < 4096) := n_dlt (b := 4096) hb (by decide)
theorem e1000000 {b : Nat} (hb : b < 2147483648) : decide (Int32.ofNat b < (1000000 : Int32)) = decide (b < 1000000) := n_dlt (b := 1000000) hb (by decide)
theorem q0 {b : Nat} (hb : b < 2147483648) : decide (Int32.ofNat b = (0 : Int32)) = decide (b = 0) := n_deq (b := 0) hb (by decide)
theorem q1 {b : Nat} (hb : b < 2147483648) : decide (Int32.ofNat b = (1 : Int32)) = decide (b = 1) := n_deq (b := 1) hb (by decide)
theorem q2 {b : Nat} (hb : b < 2147483648) : decide (Int32.ofNat b = (2 : Int32)) = decide (b = 2) := n_deq (b := 2) hb (by decide)
theorem q3 {b : Nat} (hb : b < 2147483648) : decide (Int32.ofNat b = (3 : Int32)) = decide (b = 3) := n_deq (b := 3) hb (by decide)
theorem q4 {b : Nat} (hb : b < 2147483648) : decide (Int32.ofNat b = (4 : Int32)) = decide (b = 4) := n_deq (b := 4) hb (by decide)
theorem q5 {b : Nat} (hb : b < 2147483648) : decide (Int32.ofNat b = (5 : Int32)) = decide (b = 5) := n_deq (b := 5) hb (by decide)
theorem q6 {b : Nat} (hb : b < 2147483648) : decide (Int32.ofNat b = (6 : Int32)) = decide (b = 6) := n_deq (b := 6) hb (by decide)
theorem q7 {b : Nat} (hb : b < 2147483648) : decide (Int32.ofNat b = (7 : Int32)) = decide (b = 7) := n_deq (b := 7) hb (by decide)
theorem q8 {b : Nat} (hb : b < 2147483648) : decide (Int32.ofNat b = (8 : Int32)) = decide (b = 8) := n_deq (b := 8) hb (by decide)
theorem q9 {b : Nat} (hb : b < 2147483648) : decide (Int32.ofNat b = (9 : Int32)) = decide (b = 9) := n_deq (b := 9) hb (by decide)
theorem q10 {b : Nat} (hb : b < 2147483648) : decide (Int32.ofNat b = (10 : Int32)) = decide (b = 10) := n_deq (b := 10) hb (by decide)
theorem q11 {b : Nat} (hb : b < 2147483648) : decide (Int32.ofNat b = (11 : Int32)) = decide (b = 11) := n_deq (b := 11) hb (by decide)
theorem q12 {b : Nat} (hb : b < 2147483648) : decide (Int32.ofNat b = (12 : Int32)) = decide (b = 12) := n_deq (b := 12) hb (by decide)
theorem q13 {b : Nat} (hb : b < 2147483648) : decide (Int32.ofNat b = (13 : Int32)) = decide (b = 13) := n_deq (b := 13) hb (by decide)
theorem q20 {b : Nat} (hb : b < 2147483648) : decide (Int32.ofNat b = (20 : Int32)) = decide (b = 20) := n_deq (b := 20) hb (by decide)
theorem q24 {b : Nat} (hb : b < 2147483648) : decide (Int32.ofNat b = (24 : Int32)) = decide (b = 24) := n_deq (b := 24) hb (by decide)
theorem q60 {b : Nat} (hb : b < 2147483648) : decide (Int32.ofNat b = (60 : Int32)) = decide (b = 60) := n_deq (b := 60) hb (by decide)
theorem q64 {b : Nat} (hb : b < 2147483648) : decide (Int32.ofNat b = (64 : Int32)) = decide (b = 64) := n_deq (b := 64) hb (by decide)
theorem q84 {b : Nat} (hb : b < 2147483648) : decide (Int32.ofNat b = (84 : Int32)) = decide (b = 84) := n_deq (b := 84) hb (by decide)
theorem q99 {b : Nat} (hb : b < 2147483648) : decide (Int32.ofNat b = (99 : Int32)) = decide (b = 99) := n_deq (b := 99) hb (by decide)
theorem q100 {b : Nat} (hb : b < 2147483648) : decide (Int32.ofNat b = (100 : Int32)) = decide (b = 100) := n_deq (b := 100) hb (by decide)
theorem q600 {b : Nat} (hb : b < 2147483648) : decide (Int32.ofNat b = (600 : Int32)) = decide (b = 600) := n_deq (b := 600) hb (by decide)
theorem q720 {b : Nat} (hb : b < 2147483648) : decide (Int32.ofNat b = (720 : Int32)) = decide (b = 720) := n_deq (b := 720) hb (by decide)
theorem q4096 {b : Nat} (hb : b < 2147483648) : decide (Int32.ofNat b = (4096 : Int32)) = decide (b = 4096) := n_deq (b := 4096) hb (by decide)
theorem q1000000 {b : Nat} (hb : b < 2147483648) : decide (Int32.ofNat b = (1000000 : Int32)) = decide (b = 1000000) := n_deq (b := 1000000) hb (by decide)
theorem la0 (b : Nat) : Int32.ofNat b + (0 : Int32) = Int32.ofNat (b + 0) := n_add b 0
theorem la1 (b : Nat) : Int32.ofNat b + (1 : Int32) = Int32.ofNat (b + 1) := n_add b 1
theorem la2 (b : Nat) : Int32.ofNat b + (2 : Int32) = Int32.ofNat (b + 2) := n_add b 2
theorem la3 (b : Nat) : Int32.ofNat b + (3 : Int32) = Int32.ofNat (b + 3) := n_add b 3
theorem la4 (b : Nat) : Int32.ofNat b + (4 : Int32) = Int32.ofNat (b + 4) := n_add b 4
theorem la5 (b : Nat) : Int32.ofNat b + (5 : Int32) = Int32.ofNat (b + 5) := n_add b 5
theorem la6 (b : Nat) : Int32.ofNat b + (6 : Int32) = Int32.ofNat (b + 6) := n_add b 6
theorem la7 (b : Nat) : Int32.ofNat b + (7 : Int32) = Int32.ofNat (b + 7) := n_add b 7
theorem la8 (b : Nat) : Int32.ofNat b + (8 : Int32) = Int32.ofNat (b + 8) := n_add b 8
theorem la9 (b : Nat) : Int32.ofNat b + (9 : Int32) = Int32.ofNat (b + 9) := n_add b 9
theorem la10 (b : Nat) : Int32.ofNat b + (10 : Int32) = Int32.ofNat (b + 10) := n_add b 10
theorem la11 (b : Nat) : Int32.ofNat b + (11 : Int32) = Int32.ofNat (b + 11) := n_add b 11
theorem la12 (b : Nat) : Int32.ofNat b + (12 : Int32) = Int32.ofNat (b + 12) := n_add b 12
theorem la13 (b : Nat) : Int32.ofNat b + (13 : Int32) = Int32.ofNat (b + 13) := n_add b 13
theorem la20 (b : Nat) : Int32.ofNat b + (20 : Int32) = Int32.ofNat (b + 20) := n_add b 20
theorem la24 (b : Nat) : Int32.ofNat b + (24 : Int32) = Int32.ofNat (b + 24) := n_add b 24
theorem la60 (b : Nat) : Int32.ofNat b + (60 : Int32) = Int32.ofNat (b + 60) := n_add b 60
theorem la64 (b : Nat) : Int32.ofNat b + (64 : Int32) = Int32.ofNat (b + 64) := n_add b 64
theorem la84 (b : Nat) : Int32.ofNat b + (84 : Int32) = Int32.ofNat (b + 84) := n_add b 84
theorem la99 (b : Nat) : Int32.ofNat b + (99 : Int32) = Int32.ofNat (b + 99) := n_add b 99
theorem la100 (b : Nat) : Int32.ofNat b + (100 : Int32) = Int32.ofNat (b + 100) := n_add b 100
theorem la600 (b : Nat) : Int32.ofNat b + (600 : Int32) = Int32.ofNat (b + 600) := n_add b 600
theorem la720 (b : Nat) : Int32.ofNat b + (720 : Int32) = Int32.ofNat (b + 720) := n_add b 720
theorem la4096 (b : Nat) : Int32.ofNat b + (4096 : Int32) = Int32.ofNat (b + 4096) := n_add b 4096
theorem la1000000 (b : Nat) : Int32.ofNat b + (1000000 : Int32) = Int32.ofNat (b + 1000000) := n_add b 1000000
theorem ra0 (b : Nat) : (0 : Int32) + Int32.ofNat b = Int32.ofNat (0 + b) := n_add 0 b
theorem ra1 (b : Nat) : (1 : Int32) + Int32.ofNat b = Int32.ofNat (1 + b) := n_add 1 b
theorem ra2 (b : Nat) : (2 : Int32) + Int32.ofNat b = Int32.ofNat (2 + b) := n_add 2 b
theorem ra3 (b : Nat) : (3 : Int32) + Int32.ofNat b = Int32.ofNat (3 + b) := n_add 3 b
theorem ra4 (b : Nat) : (4 : Int32) + Int32.ofNat b = Int32.ofNat (4 + b) := n_add 4 b
theorem ra5 (b : Nat) : (5 : Int32) + Int32.ofNat b = Int32.ofNat (5 + b) := n_add 5 b
theorem ra6 (b : Nat) : (6 : Int32) + Int32.ofNat b = Int32.ofNat (6 + b) := n_add 6 b
theorem ra7 (b : Nat) : (7 : Int32) + Int32.ofNat b = Int32.ofNat (7 + b) := n_add 7 b
theorem ra8 (b : Nat) : (8 : Int32) + Int32.ofNat b = Int32.ofNat (8 + b) := n_add 8 b
theorem ra9 (b : Nat) : (9 : Int32) + Int32.ofNat b = Int32.ofNat (9 + b) := n_add 9 b
theorem ra10 (b : Nat) : (10 : Int32) + Int32.ofNat b = Int32.ofNat (10 + b) := n_add 10 b
theorem ra11 (b : Nat) : (11 : Int32) + Int32.ofNat b = Int32.ofNat (11 + b) := n_add 11 b
theorem ra12 (b : Nat) : (12 : Int32) + Int32.ofNat b = Int32.ofNat (12 + b) := n_add 12 b
theorem ra13 (b : Nat) : (13 : Int32) + Int32.ofNat b = Int32.ofNat (13 + b) := n_add 13 b
theorem ra20 (b : Nat) : (20 : Int32) + Int32.ofNat b = Int32.ofNat (20 + b) := n_add 20 b
theorem ra24 (b : Nat) : (24 : Int32) + Int32.ofNat b = Int32.ofNat (24 + b) := n_add 24 b
theorem ra60 (b : Nat) : (60 : Int32) + Int32.ofNat b = Int32.ofNat (60 + b) := n_add 60 b
theorem ra64 (b : Nat) : (64 : Int32) + Int32.ofNat b = Int32.ofNat (64 + b) := n_add 64 b
theorem ra84 (b : Nat) : (84 : Int32) + Int32.ofNat b = Int32.ofNat (84 + b) := n_add 84 b
theorem ra99 (b : Nat) : (99 : Int32) + Int32.ofNat b = Int32.ofNat (99 + b) := n_add 99 b
theorem ra100 (b : Nat) : (100 : Int32) + Int32.ofNat b = Int32.ofNat (100 + b) := n_add 100 b
theorem ra600 (b : Nat) : (600 : Int32) + Int32.ofNat b = Int32.ofNat (600 + b) := n_add 600 b
theorem ra720 (b : Nat) : (720 : Int32) + Int32.ofNat b = Int32.ofNat (720 + b) := n_add 720 b
theorem ra4096 (b : Nat) : (4096 : Int32) + Int32.ofNat b = Int32.ofNat (4096 + b) := n_add 4096 b
theorem ra1000000 (b : Nat) : (1000000 : Int32) + Int32.ofNat b = Int32.ofNat (1000000 + b) := n_add 1000000 b
theorem lm0 (b : Nat) : Int32.ofNat b * (0 : Int32) = Int32.ofNat (b * 0) := n_mul b 0
theorem lm1 (b : Nat) : Int32.ofNat b * (1 : Int32) = Int32.ofNat (b * 1) := n_mul b 1
theorem lm2 (b : Nat) : Int32.ofNat b * (2 : Int32) = Int32.ofNat (b * 2) := n_mul b 2
theorem lm3 (b : Nat) : Int32.ofNat b * (3 : Int32) = Int32.ofNat (b * 3) := n_mul b 3
theorem lm4 (b : Nat) : Int32.ofNat b * (4 : Int32) = Int32.ofNat (b * 4) := n_mul b 4
theorem lm5 (b : Nat) : Int32.ofNat b * (5 : Int32) = Int32.ofNat (b * 5) := n_mul b 5
theorem lm6 (b : Nat) : Int32.ofNat b * (6 : Int32) = Int32.ofNat (b * 6) := n_mul b 6
theorem lm7 (b : Nat) : Int32.ofNat b * (7 : Int32) = Int32.ofNat (b * 7) := n_mul b 7
theorem lm8 (b : Nat) : Int32.ofNat b * (8 : Int32) = Int32.ofNat (b * 8) := n_mul b 8
theorem lm9 (b : Nat) : Int32.ofNat b * (9 : Int32) = Int32.ofNat (b * 9) := n_mul b 9
theorem lm10 (b : Nat) : Int32.ofNat b * (10 : Int32) = Int32.ofNat (b * 10) := n_mul b 10
theorem lm11 (b : Nat) : Int32.ofNat b * (11 : Int32) = Int32.ofNat (b * 11) := n_mul b 11
theorem lm12 (b : Nat) : Int32.ofNat b * (12 : Int32) = Int32.ofNat (b * 12) := n_mul b 12
theorem lm13 (b : Nat) : Int32.ofNat b * (13 : Int32) = Int32.ofNat (b * 13) := n_mul b 13
theorem lm20 (b : Nat) : Int32.ofNat b * (20 : Int32) = Int32.ofNat (b * 20) := n_mul b 20
theorem lm24 (b : Nat) : Int32.ofNat b * (24 : Int32) = Int32.ofNat (b * 24) := n_mul b 24
theorem lm60 (b : Nat) : Int32.ofNat b * (60 : Int32) = Int32.ofNat (b * 60) := n_mul b 60
theorem lm64 (b : Nat) : Int32.ofNat b * (64 : Int32) = Int32.ofNat (b * 64) := n_mul b 64
theorem lm84 (b : Nat) : Int32.ofNat b * (84 : Int32) = Int32.ofNat (b * 84) := n_mul b 84
theorem lm99 (b : Nat) : Int32.ofNat b * (99 : Int32) = Int32.ofNat (b * 99) := n_mul b 99
theorem lm100 (b : Nat) : Int32.ofNat b * (100 : Int32) = Int32.ofNat (b * 100) := n_mul b 100
theorem lm600 (b : Nat) : Int32.ofNat b * (600 : Int32) = Int32.ofNat (b * 600) := n_mul b 600
theorem lm720 (b : Nat) : Int32.ofNat b * (720 : Int32) = Int32.ofNat (b * 720) := n_mul b 720
theorem lm4096 (b : Nat) : Int32.ofNat b * (4096 : Int32) = Int32.ofNat (b * 4096) := n_mul b 4096
theorem lm1000000 (b : Nat) : Int32.ofNat b * (1000000 : Int32) = Int32.ofNat (b * 1000000) := n_mul b 1000000
theorem rml0 (b : Nat) : (0 : Int32) * Int32.ofNat b = Int32.ofNat (0 * b) := n_mul 0 b
theorem rml1 (b : Nat) : (1 : Int32) * Int32.ofNat b = Int32.ofNat (1 * b) := n_mul 1 b
theorem rml2 (b : Nat) : (2 : Int32) * Int32.ofNat b = Int32.ofNat (2 * b) := n_mul 2 b
theorem rml3 (b : Nat) : (3 : Int32) * Int32.ofNat b = Int32.ofNat (3 * b) := n_mul 3 b
theorem rml4 (b : Nat) : (4 : Int32) * Int32.ofNat b = Int32.ofNat (4 * b) := n_mul 4 b
theorem rml5 (b : Nat) : (5 : Int32) * Int32.ofNat b = Int32.ofNat (5 * b) := n_mul 5 b
theorem rml6 (b : Nat) : (6 : Int32) * Int32.ofNat b = Int32.ofNat (6 * b) := n_mul 6 b
theorem rml7 (b : Nat) : (7 : Int32) * Int32.ofNat b = Int32.ofNat (7 * b) := n_mul 7 b
theorem rml8 (b : Nat) : (8 : Int32) * Int32.ofNat b = Int32.ofNat (8 * b) := n_mul 8 b
theorem rml9 (b : Nat) : (9 : Int32) * Int32.ofNat b = Int32.ofNat (9 * b) := n_mul 9 b
theorem rml10 (b : Nat) : (10 : Int32) * Int32.ofNat b = Int32.ofNat (10 * b) := n_mul 10 b
theorem rml11 (b : Nat) : (11 : Int32) * Int32.ofNat b = Int32.ofNat (11 * b) := n_mul 11 b
theorem rml12 (b : Nat) : (12 : Int32) * Int32.ofNat b = Int32.ofNat (12 * b) := n_mul 12 b
theorem rml13 (b : Nat) : (13 : Int32) * Int32.ofNat b = Int32.ofNat (13 * b) := n_mul 13 b
theorem rml20 (b : Nat) : (20 : Int32) * Int32.ofNat b = Int32.ofNat (20 * b) := n_mul 20 b
theorem rml24 (b : Nat) : (24 : Int32) * Int32.ofNat b = Int32.ofNat (24 * b) := n_mul 24 b
theorem rml60 (b : Nat) : (60 : Int32) * Int32.ofNat b = Int32.ofNat (60 * b) := n_mul 60 b
theorem rml64 (b : Nat) : (64 : Int32) * Int32.ofNat b = Int32.ofNat (64 * b) := n_mul 64 b
theorem rml84 (b : Nat) : (84 : Int32) * Int32.ofNat b = Int32.ofNat (84 * b) := n_mul 84 b
theorem rml99 (b : Nat) : (99 : Int32) * Int32.ofNat b = Int32.ofNat (99 * b) := n_mul 99 b
theorem rml100 (b : Nat) : (100 : Int32) * Int32.ofNat b = Int32.ofNat (100 * b) := n_mul 100 b
theorem rml600 (b : Nat) : (600 : Int32) * Int32.ofNat b = Int32.ofNat (600 * b) := n_mul 600 b
theorem rml720 (b : Nat) : (720 : Int32) * Int32.ofNat b = Int32.ofNat (720 * b) := n_mul 720 b
theorem rml4096 (b : Nat) : (4096 : Int32) * Int32.ofNat b = Int32.ofNat (4096 * b) := n_mul 4096 b
theorem rml1000000 (b : Nat) : (1000000 : Int32) * Int32.ofNat b = Int32.ofNat (1000000 * b) := n_mul 1000000 b
theorem ls0 {b : Nat} (h : 0 ≤ b) : Int32.ofNat b - (0 : Int32) = Int32.ofNat (b - 0) := n_sub h
theorem ls1 {b : Nat} (h : 1 ≤ b) : Int32.ofNat b - (1 : Int32) = Int32.ofNat (b - 1) := n_sub h
theorem ls2 {b : Nat} (h : 2 ≤ b) : Int32.ofNat b - (2 : Int32) = Int32.ofNat (b - 2) := n_sub h
theorem ls3 {b : Nat} (h : 3 ≤ b) : Int32.ofNat b - (3 : Int32) = Int32.ofNat (b - 3) := n_sub h
theorem ls4 {b : Nat} (h : 4 ≤ b) : Int32.ofNat b - (4 : Int32) = Int32.ofNat (b - 4) := n_sub h
theorem ls5 {b : Nat} (h : 5 ≤ b) : Int32.ofNat b - (5 : Int32) = Int32.ofNat (b - 5) := n_sub h
theorem ls6 {b : Nat} (h : 6 ≤ b) : Int32.ofNat b - (6 : Int32) = Int32.ofNat (b - 6) := n_sub h
theorem ls7 {b : Nat} (h : 7 ≤ b) : Int32.ofNat b - (7 : Int32) = Int32.ofNat (b - 7) := n_sub h
theorem ls8 {b : Nat} (h : 8 ≤ b) : Int32.ofNat b - (8 : Int32) = Int32.ofNat (b - 8) := n_sub h
theorem ls9 {b : Nat} (h : 9 ≤ b) : Int32.ofNat b - (9 : Int32) = Int32.ofNat (b - 9) := n_sub h
theorem ls10 {b : Nat} (h : 10 ≤ b) : Int32.ofNat b - (10 : Int32) = Int32.ofNat (b - 10) := n_sub h
theorem ls11 {b : Nat} (h : 11 ≤ b) : Int32.ofNat b - (11 : Int32) = Int32.ofNat (b - 11) := n_sub h
theorem ls12 {b : Nat} (h : 12 ≤ b) : Int32.ofNat b - (12 : Int32) = Int32.ofNat (b - 12) := n_sub h
theorem ls13 {b : Nat} (h : 13 ≤ b) : Int32.ofNat b - (13 : Int32) = Int32.ofNat (b - 13) := n_sub h
theorem ls20 {b : Nat} (h : 20 ≤ b) : Int32.ofNat b - (20 : Int32) = Int32.ofNat (b - 20) := n_sub h
theorem ls24 {b : Nat} (h : 24 ≤ b) : Int32.ofNat b - (24 : Int32) = Int32.ofNat (b - 24) := n_sub h
theorem ls60 {b : Nat} (h : 60 ≤ b) : Int32.ofNat b - (60 : Int32) = Int32.ofNat (b - 60) := n_sub h
theorem ls64 {b : Nat} (h : 64 ≤ b) : Int32.ofNat b - (64 : Int32) = Int32.ofNat (b - 64) := n_sub h
theorem ls84 {b : Nat} (h : 84 ≤ b) : Int32.ofNat b - (84 : Int32) = Int32.ofNat (b - 84) := n_sub h
theorem ls99 {b : Nat} (h : 99 ≤ b) : Int32.ofNat b - (99 : Int32) = Int32.ofNat (b - 99) := n_sub h
theorem ls100 {b : Nat} (h : 100 ≤ b) : Int32.ofNat b - (100 : Int32) = Int32.ofNat (b - 100) := n_sub h
theorem ls600 {b : Nat} (h : 600 ≤ b) : Int32.ofNat b - (600 : Int32) = Int32.ofNat (b - 600) := n_sub h
theorem ls720 {b : Nat} (h : 720 ≤ b) : Int32.ofNat b - (720 : Int32) = Int32.ofNat (b - 720) := n_sub h
theorem ls4096 {b : Nat} (h : 4096 ≤ b) : Int32.ofNat b - (4096 : Int32) = Int32.ofNat (b - 4096) := n_sub h
theorem ls1000000 {b : Nat} (h : 1000000 ≤ b) : Int32.ofNat b - (1000000 : Int32) = Int32.ofNat (b - 1000000) := n_sub h
theorem rs0 {b : Nat} (h : b ≤ 0) : (0 : Int32) - Int32.ofNat b = Int32.ofNat (0 - b) := n_sub h
theorem rs1 {b : Nat} (h : b ≤ 1) : (1 : Int32) - Int32.ofNat b = Int32.ofNat (1 - b) := n_sub h
theorem rs2 {b : Nat} (h : b ≤ 2) : (2 : Int32) - Int32.ofNat b = Int32.ofNat (2 - b) := n_sub h
theorem rs3 {b : Nat} (h : b ≤ 3) : (3 : Int32) - Int32.ofNat b = Int32.ofNat (3 - b) := n_sub h
theorem rs4 {b : Nat} (h : b ≤ 4) : (4 : Int32) - Int32.ofNat b = Int32.ofNat (4 - b) := n_sub h
theorem rs5 {b : Nat} (h : b ≤ 5) : (5 : Int32) - Int32.ofNat b = Int32.ofNat (5 - b) := n_sub h
theorem rs6 {b : Nat} (h : b ≤ 6) : (6 : Int32) - Int32.ofNat b = Int32.ofNat (6 - b) := n_sub h
theorem rs7 {b : Nat} (h : b ≤ 7) : (7 : Int32) - Int32.ofNat b = Int32.ofNat (7 - b) := n_sub h
theorem rs8 {b : Nat} (h : b ≤ 8) : (8 : Int32) - Int32.ofNat b = Int32.ofNat (8 - b) := n_sub h
theorem rs9 {b : Nat} (h : b ≤ 9) : (9 : Int32) - Int32.ofNat b = Int32.ofNat (9 - b) := n_sub h
theorem rs10 {b : Nat} (h : b ≤ 10) : (10 : Int32) - Int32.ofNat b = Int32.ofNat (10 - b) := n_sub h
theorem rs11 {b : Nat} (h : b ≤ 11) : (11 : Int32) - Int32.ofNat b = Int32.ofNat (11 - b) := n_sub h
theorem rs12 {b : Nat} (h : b ≤ 12) : (12 : Int32) - Int32.ofNat b = Int32.ofNat (12 - b) := n_sub h
theorem rs13 {b : Nat} (h : b ≤ 13) : (13 : Int32) - Int32.ofNat b = Int32.ofNat (13 - b) := n_sub h
theorem rs20 {b : Nat} (h : b ≤ 20) : (20 : Int32) - Int32.ofNat b = Int32.ofNat (20 - b) := n_sub h
theorem rs24 {b : Nat} (h : b ≤ 24) : (24 : Int32) - Int32.ofNat b = Int32.ofNat (24 - b) := n_sub h
theorem rs60 {b : Nat} (h : b ≤ 60) : (60 : Int32) - Int32.ofNat b = Int32.ofNat (60 - b) := n_sub h
theorem rs64 {b : Nat} (h : b ≤ 64) : (64 : Int32) - Int32.ofNat b = Int32.ofNat (64 - b) := n_sub h
theorem rs84 {b : Nat} (h : b ≤ 84) : (84 : Int32) - Int32.ofNat b = Int32.ofNat (84 - b) := n_sub h
theorem rs99 {b : Nat} (h : b ≤ 99) : (99 : Int32) - Int32.ofNat b = Int32.ofNat (99 - b) := n_sub h
theorem rs100 {b : Nat} (h : b ≤ 100) : (100 : Int32) - Int32.ofNat b = Int32.ofNat (100 - b) := n_sub h
theorem rs600 {b : Nat} (h : b ≤ 600) : (600 : Int32) - Int32.ofNat b = Int32.ofNat (600 - b) := n_sub h
theorem rs720 {b : Nat} (h : b ≤ 720) : (720 : Int32) - Int32.ofNat b = Int32.ofNat (720 - b) := n_sub h
theorem rs4096 {b : Nat} (h : b ≤ 4096) : (4096 : Int32) - Int32.ofNat b = Int32.ofNat (4096 - b) := n_sub h
theorem rs1000000 {b : Nat} (h : b ≤ 1000000) : (1000000 : Int32) - Int32.ofNat b = Int32.ofNat (1000000 - b) := n_sub h
theorem ld1 {b : Nat} (h : b < 2147483648) : Int32.ofNat b / (1 : Int32) = Int32.ofNat (b / 1) := n_div h (by decide) (by decide)
theorem ld2 {b : Nat} (h : b < 2147483648) : Int32.ofNat b / (2 : Int32) = Int32.ofNat (b / 2) := n_div h (by decide) (by decide)
theorem ld3 {b : Nat} (h : b < 2147483648) : Int32.ofNat b / (3 : Int32) = Int32.ofNat (b / 3) := n_div h (by decide) (by decide)
theorem ld4 {b : Nat} (h : b < 2147483648) : Int32.ofNat b / (4 : Int32) = Int32.ofNat (b / 4) := n_div h (by decide) (by decide)
theorem ld5 {b : Nat} (h : b < 2147483648) : Int32.ofNat b / (5 : Int32) = Int32.ofNat (b / 5) := n_div h (by decide) (by decide)
theorem ld6 {b : Nat} (h : b < 2147483648) : Int32.ofNat b / (6 : Int32) = Int32.ofNat (b / 6) := n_div h (by decide) (by decide)
theorem ld7 {b : Nat} (h : b < 2147483648) : Int32.ofNat b / (7 : Int32) = Int32.ofNat (b / 7) := n_div h (by decide) (by decide)
theorem ld8 {b : Nat} (h : b < 2147483648) : Int32.ofNat b / (8 : Int32) = Int32.ofNat (b / 8) := n_div h (by decide) (by decide)
theorem ld9 {b : Nat} (h : b < 2147483648) : Int32.ofNat b / (9 : Int32) = Int32.ofNat (b / 9) := n_div h (by decide) (by decide)
theorem ld10 {b : Nat} (h : b < 2147483648) : Int32.ofNat b / (10 : Int32) = Int32.ofNat (b / 10) := n_div h (by decide) (by decide)
theorem ld11 {b : Nat} (h : b < 2147483648) : Int32.ofNat b / (11 : Int32) = Int32.ofNat (b / 11) := n_div h (by decide) (by decide)
theorem ld12 {b : Nat} (h : b < 2147483648) : Int32.ofNat b / (12 : Int32) = Int32.ofNat (b / 12) := n_div h (by decide) (by decide)
theorem ld13 {b : Nat} (h : b < 2147483648) : Int32.ofNat b / (13 : Int32) = Int32.ofNat (b / 13) := n_div h (by decide) (by decide)
theorem ld20 {b : Nat} (h : b < 2147483648) : Int32.ofNat b / (20 : Int32) = Int32.ofNat (b / 20) := n_div h (by decide) (by decide)
theorem ld24 {b : Nat} (h : b < 2147483648) : Int32.ofNat b / (24 : Int32) = Int32.ofNat (b / 24) := n_div h (by decide) (by decide)
theorem ld60 {b : Nat} (h : b < 2147483648) : Int32.ofNat b / (60 : Int32) = Int32.ofNat (b / 60) := n_div h (by decide) (by decide)
theorem ld64 {b : Nat} (h : b < 2147483648) : Int32.ofNat b / (64 : Int32) = Int32.ofNat (b / 64) := n_div h (by decide) (by decide)
theorem ld84 {b : Nat} (h : b < 2147483648) : Int32.ofNat b / (84 : Int32) = Int32.ofNat (b / 84) := n_div h (by decide) (by decide)
theorem ld99 {b : Nat} (h : b < 2147483648) : Int32.ofNat b / (99 : Int32) = Int32.ofNat (b / 99) := n_div h (by decide) (by decide)
theorem ld100 {b : Nat} (h : b < 2147483648) : Int32.ofNat b / (100 : Int32) = Int32.ofNat (b / 100) := n_div h (by decide) (by decide)
theorem ld600 {b : Nat} (h : b < 2147483648) : Int32.ofNat b / (600 : Int32) = Int32.ofNat (b / 600) := n_div h (by decide) (by decide)
theorem ld720 {b : Nat} (h : b < 2147483648) : Int32.ofNat b / (720 : Int32) = Int32.ofNat (b / 720) := n_div h (by decide) (by decide)
theorem ld4096 {b : Nat} (h : b < 2147483648) : Int32.ofNat b / (4096 : Int32) = Int32.ofNat (b / 4096) := n_div h (by decide) (by decide)
theorem ld1000000 {b : Nat} (h : b < 2147483648) : Int32.ofNat b / (1000000 : Int32) = Int32.ofNat (b / 1000000) := n_div h (by decide) (by decide)
theorem lr1 {b : Nat} (h : b < 2147483648) : Int32.ofNat b - Int32.ofNat b / (1 : Int32) * (1 : Int32) = Int32.ofNat (b % 1) := n_rem h (by decide) (by decide)
theorem lr2 {b : Nat} (h : b < 2147483648) : Int32.ofNat b - Int32.ofNat b / (2 : Int32) * (2 : Int32) = Int32.ofNat (b % 2) := n_rem h (by decide) (by decide)
theorem lr3 {b : Nat} (h : b < 2147483648) : Int32.ofNat b - Int32.ofNat b / (3 : Int32) * (3 : Int32) = Int32.ofNat (b % 3) := n_rem h (by decide) (by decide)
theorem lr4 {b : Nat} (h : b < 2147483648) : Int32.ofNat b - Int32.ofNat b / (4 : Int32) * (4 : Int32) = Int32.ofNat (b % 4) := n_rem h (by decide) (by decide)
theorem lr5 {b : Nat} (h : b < 2147483648) : Int32.ofNat b - Int32.ofNat b / (5 : Int32) * (5 : Int32) = Int32.ofNat (b % 5) := n_rem h (by decide) (by decide)
theorem lr6 {b : Nat} (h : b < 2147483648) : Int32.ofNat b - Int32.ofNat b / (6 : Int32) * (6 : Int32) = Int32.ofNat (b % 6) := n_rem h (by decide) (by decide)
theorem lr7 {b : Nat} (h : b < 2147483648) : Int32.ofNat b - Int32.ofNat b / (7 : Int32) * (7 : Int32) = Int32.ofNat (b % 7) := n_rem h (by decide) (by decide)
theorem lr8 {b : Nat} (h : b < 2147483648) : Int32.ofNat b - Int32.ofNat b / (8 : Int32) * (8 : Int32) = Int32.ofNat (b % 8) := n_rem h (by decide) (by decide)
theorem lr9 {b : Nat} (h : b < 2147483648) : Int32.ofNat b - Int32.ofNat b / (9 : Int32) * (9 : Int32) = Int32.ofNat (b % 9) := n_rem h (by decide) (by decide)
theorem lr10 {b : Nat} (h : b < 2147483648) : Int32.ofNat b - Int32.ofNat b / (10 : Int32) * (10 : Int32) = Int32.ofNat (b % 10) := n_rem h (by decide) (by decide)
theorem lr11 {b : Nat} (h : b < 2147483648) : Int32.ofNat b - Int32.ofNat b / (11 : Int32) * (11 : Int32) = Int32.ofNat (b % 11) := n_rem h (by decide) (by decide)
theorem lr12 {b : Nat} (h : b < 2147483648) : Int32.ofNat b - Int32.ofNat b / (12 : Int32) * (12 : Int32) = Int32.ofNat (b % 12) := n_rem h (by decide) (by decide)
theorem lr13 {b : Nat} (h : b < 2147483648) : Int32.ofNat b - Int32.ofNat b / (13 : Int32) * (13 : Int32) = Int32.ofNat (b % 13) := n_rem h (by decide) (by decide)
theorem lr20 {b : Nat} (h : b < 2147483648) : Int32.ofNat b - Int32.ofNat b / (20 : Int32) * (20 : Int32) = Int32.ofNat (b % 20) := n_rem h (by decide) (by decide)
theorem lr24 {b : Nat} (h : b < 2147483648) : Int32.ofNat b - Int32.ofNat b / (24 : Int32) * (24 : Int32) = Int32.ofNat (b % 24) := n_rem h (by decide) (by decide)
theorem lr60 {b : Nat} (h : b < 2147483648) : Int32.ofNat b - Int32.ofNat b / (60 : Int32) * (60 : Int32) = Int32.ofNat (b % 60) := n_rem h (by decide) (by decide)
theorem lr64 {b : Nat} (h : b < 2147483648) : Int32.ofNat b - Int32.ofNat b / (64 : Int32) * (64 : Int32) = Int32.ofNat (b % 64) := n_rem h (by decide) (by decide)
theorem lr84 {b : Nat} (h : b < 2147483648) : Int32.ofNat b - Int32.ofNat b / (84 : Int32) * (84 : Int32) = Int32.ofNat (b % 84) := n_rem h (by decide) (by decide)
theorem lr99 {b : Nat} (h : b < 2147483648) : Int32.ofNat b - Int32.ofNat b / (99 : Int32) * (99 : Int32) = Int32.ofNat (b % 99) := n_rem h (by decide) (by decide)
theorem lr100 {b : Nat} (h : b < 2147483648) : Int32.ofNat b - Int32.ofNat b / (100 : Int32) * (100 : Int32) = Int32.ofNat (b % 100) := n_rem h (by decide) (by decide)
theorem lr600 {b : Nat} (h : b < 2147483648) : Int32.ofNat b - Int32.ofNat b / (600 : Int32) * (600 : Int32) = Int32.ofNat (b % 600) := n_rem h (by decide) (by decide)
theorem lr720 {b : Nat} (h : b < 2147483648) : Int32.ofNat b - Int32.ofNat b / (720 : Int32) * (720 : Int32) = Int32.ofNat (b % 720) := n_rem h (by decide) (by decide)
theorem lr4096 {b : Nat} (h : b < 2147483648) : Int32.ofNat b - Int32.ofNat b / (4096 : Int32) * (4096 : Int32) = Int32.ofNat (b % 4096) := n_rem h (by decide) (by decide)
theorem lr1000000 {b : Nat} (h : b < 2147483648) : Int32.ofNat b - Int32.ofNat b / (1000000 : Int32) * (1000000 : Int32) = Int32.ofNat (b % 1000000) := n_rem h (by decide) (by decide)
end
