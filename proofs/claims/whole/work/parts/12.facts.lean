theorem sn_cnd {α : Type} {P : α → Prop} {b : Bool} {x y : α} (h1 : P x) (h2 : P y) : P (cond b x y) := by cases b; exact h2; exact h1
theorem sn_cndK {b : Bool} {x y : Nat × Nat} (h1 : sn_ch x = true) (h2 : sn_ch y = true) : sn_ch (cond b x y) = true := by cases b; exact h2; exact h1
set_option maxRecDepth 100000 in
theorem sn_kdok (a : Nat) : sn_ch (pm_kd a) = true := by
  unfold pm_kd
  exact (sn_cndK (sn_cndK (sn_cndK (sn_cndK (sn_cndK (sn_cndK (sn_cndK (sn_cndK (sn_cndK (show sn_ch (1, 13) = true from rfl) (show sn_ch (0, 0) = true from rfl)) (sn_cndK (show sn_ch (4, 4096) = true from rfl) (show sn_ch (0, 0) = true from rfl))) (sn_cndK (sn_cndK (show sn_ch (19, 4) = true from rfl) (show sn_ch (0, 0) = true from rfl)) (sn_cndK (show sn_ch (1, 13) = true from rfl) (show sn_ch (0, 0) = true from rfl)))) (sn_cndK (sn_cndK (sn_cndK (show sn_ch (4, 4096) = true from rfl) (show sn_ch (0, 0) = true from rfl)) (sn_cndK (show sn_ch (19, 4) = true from rfl) (show sn_ch (0, 0) = true from rfl))) (sn_cndK (show sn_ch (1, 13) = true from rfl) (show sn_ch (0, 0) = true from rfl)))) (sn_cndK (sn_cndK (sn_cndK (sn_cndK (show sn_ch (4, 4096) = true from rfl) (show sn_ch (0, 0) = true from rfl)) (sn_cndK (show sn_ch (19, 4) = true from rfl) (show sn_ch (0, 0) = true from rfl))) (sn_cndK (sn_cndK (show sn_ch (1, 13) = true from rfl) (show sn_ch (0, 0) = true from rfl)) (sn_cndK (show sn_ch (4, 4096) = true from rfl) (show sn_ch (0, 0) = true from rfl)))) (sn_cndK (sn_cndK (sn_cndK (show sn_ch (19, 4) = true from rfl) (show sn_ch (0, 0) = true from rfl)) (sn_cndK (show sn_ch (1, 8) = true from rfl) (show sn_ch (0, 0) = true from rfl))) (sn_cndK (show sn_ch (1, 8) = true from rfl) (show sn_ch (0, 0) = true from rfl))))) (sn_cndK (sn_cndK (sn_cndK (sn_cndK (sn_cndK (show sn_ch (13, 3) = true from rfl) (show sn_ch (0, 0) = true from rfl)) (sn_cndK (show sn_ch (1, 8) = true from rfl) (show sn_ch (0, 0) = true from rfl))) (sn_cndK (sn_cndK (show sn_ch (1, 8) = true from rfl) (show sn_ch (0, 0) = true from rfl)) (sn_cndK (show sn_ch (13, 3) = true from rfl) (show sn_ch (0, 0) = true from rfl)))) (sn_cndK (sn_cndK (sn_cndK (show sn_ch (1, 8) = true from rfl) (show sn_ch (0, 0) = true from rfl)) (sn_cndK (show sn_ch (1, 8) = true from rfl) (show sn_ch (0, 0) = true from rfl))) (sn_cndK (show sn_ch (1, 8) = true from rfl) (show sn_ch (0, 0) = true from rfl)))) (sn_cndK (sn_cndK (sn_cndK (sn_cndK (show sn_ch (16, 4) = true from rfl) (show sn_ch (0, 0) = true from rfl)) (sn_cndK (show sn_ch (1, 8) = true from rfl) (show sn_ch (0, 0) = true from rfl))) (sn_cndK (sn_cndK (show sn_ch (1, 8) = true from rfl) (show sn_ch (0, 0) = true from rfl)) (sn_cndK (show sn_ch (1, 8) = true from rfl) (show sn_ch (0, 0) = true from rfl)))) (sn_cndK (sn_cndK (sn_cndK (show sn_ch (16, 4) = true from rfl) (show sn_ch (0, 0) = true from rfl)) (sn_cndK (show sn_ch (1, 6) = true from rfl) (show sn_ch (0, 0) = true from rfl))) (sn_cndK (show sn_ch (1, 6) = true from rfl) (show sn_ch (0, 0) = true from rfl)))))) (sn_cndK (sn_cndK (sn_cndK (sn_cndK (sn_cndK (sn_cndK (show sn_ch (1, 6) = true from rfl) (show sn_ch (0, 0) = true from rfl)) (sn_cndK (show sn_ch (1, 6) = true from rfl) (show sn_ch (0, 0) = true from rfl))) (sn_cndK (sn_cndK (show sn_ch (10, 9) = true from rfl) (show sn_ch (0, 0) = true from rfl)) (sn_cndK (show sn_ch (1, 6) = true from rfl) (show sn_ch (0, 0) = true from rfl)))) (sn_cndK (sn_cndK (sn_cndK (show sn_ch (1, 6) = true from rfl) (show sn_ch (0, 0) = true from rfl)) (sn_cndK (show sn_ch (1, 6) = true from rfl) (show sn_ch (0, 0) = true from rfl))) (sn_cndK (show sn_ch (1, 6) = true from rfl) (show sn_ch (0, 0) = true from rfl)))) (sn_cndK (sn_cndK (sn_cndK (sn_cndK (show sn_ch (10, 9) = true from rfl) (show sn_ch (0, 0) = true from rfl)) (sn_cndK (show sn_ch (103, 2) = true from rfl) (show sn_ch (0, 0) = true from rfl))) (sn_cndK (sn_cndK (show sn_ch (1, 2) = true from rfl) (show sn_ch (0, 0) = true from rfl)) (sn_cndK (show sn_ch (106, 2) = true from rfl) (show sn_ch (0, 0) = true from rfl)))) (sn_cndK (sn_cndK (sn_cndK (show sn_ch (100, 2) = true from rfl) (show sn_ch (0, 0) = true from rfl)) (sn_cndK (show sn_ch (1, 4) = true from rfl) (show sn_ch (0, 0) = true from rfl))) (sn_cndK (show sn_ch (2, 600) = true from rfl) (show sn_ch (0, 0) = true from rfl))))) (sn_cndK (sn_cndK (sn_cndK (sn_cndK (sn_cndK (show sn_ch (18, 9) = true from rfl) (show sn_ch (0, 0) = true from rfl)) (sn_cndK (show sn_ch (1, 8) = true from rfl) (show sn_ch (0, 0) = true from rfl))) (sn_cndK (sn_cndK (show sn_ch (1, 8) = true from rfl) (show sn_ch (0, 0) = true from rfl)) (sn_cndK (show sn_ch (13, 3) = true from rfl) (show sn_ch (0, 0) = true from rfl)))) (sn_cndK (sn_cndK (sn_cndK (show sn_ch (1, 8) = true from rfl) (show sn_ch (0, 0) = true from rfl)) (sn_cndK (show sn_ch (1, 8) = true from rfl) (show sn_ch (0, 0) = true from rfl))) (sn_cndK (show sn_ch (13, 3) = true from rfl) (show sn_ch (0, 0) = true from rfl)))) (sn_cndK (sn_cndK (sn_cndK (sn_cndK (show sn_ch (1, 8) = true from rfl) (show sn_ch (0, 0) = true from rfl)) (sn_cndK (show sn_ch (1, 8) = true from rfl) (show sn_ch (0, 0) = true from rfl))) (sn_cndK (show sn_ch (1, 8) = true from rfl) (show sn_ch (0, 0) = true from rfl))) (sn_cndK (sn_cndK (sn_cndK (show sn_ch (16, 4) = true from rfl) (show sn_ch (0, 0) = true from rfl)) (sn_cndK (show sn_ch (1, 8) = true from rfl) (show sn_ch (0, 0) = true from rfl))) (sn_cndK (show sn_ch (1, 8) = true from rfl) (show sn_ch (0, 0) = true from rfl))))))) (sn_cndK (sn_cndK (sn_cndK (sn_cndK (sn_cndK (sn_cndK (sn_cndK (show sn_ch (1, 8) = true from rfl) (show sn_ch (0, 0) = true from rfl)) (sn_cndK (show sn_ch (16, 4) = true from rfl) (show sn_ch (0, 0) = true from rfl))) (sn_cndK (sn_cndK (show sn_ch (1, 6) = true from rfl) (show sn_ch (0, 0) = true from rfl)) (sn_cndK (show sn_ch (1, 6) = true from rfl) (show sn_ch (0, 0) = true from rfl)))) (sn_cndK (sn_cndK (sn_cndK (show sn_ch (1, 6) = true from rfl) (show sn_ch (0, 0) = true from rfl)) (sn_cndK (show sn_ch (1, 6) = true from rfl) (show sn_ch (0, 0) = true from rfl))) (sn_cndK (show sn_ch (10, 9) = true from rfl) (show sn_ch (0, 0) = true from rfl)))) (sn_cndK (sn_cndK (sn_cndK (sn_cndK (show sn_ch (1, 6) = true from rfl) (show sn_ch (0, 0) = true from rfl)) (sn_cndK (show sn_ch (1, 6) = true from rfl) (show sn_ch (0, 0) = true from rfl))) (sn_cndK (sn_cndK (show sn_ch (1, 6) = true from rfl) (show sn_ch (0, 0) = true from rfl)) (sn_cndK (show sn_ch (1, 6) = true from rfl) (show sn_ch (0, 0) = true from rfl)))) (sn_cndK (sn_cndK (sn_cndK (show sn_ch (10, 9) = true from rfl) (show sn_ch (0, 0) = true from rfl)) (sn_cndK (show sn_ch (103, 2) = true from rfl) (show sn_ch (0, 0) = true from rfl))) (sn_cndK (show sn_ch (1, 2) = true from rfl) (show sn_ch (0, 0) = true from rfl))))) (sn_cndK (sn_cndK (sn_cndK (sn_cndK (sn_cndK (show sn_ch (106, 2) = true from rfl) (show sn_ch (0, 0) = true from rfl)) (sn_cndK (show sn_ch (100, 2) = true from rfl) (show sn_ch (0, 0) = true from rfl))) (sn_cndK (sn_cndK (show sn_ch (1, 4) = true from rfl) (show sn_ch (0, 0) = true from rfl)) (sn_cndK (show sn_ch (2, 600) = true from rfl) (show sn_ch (0, 0) = true from rfl)))) (sn_cndK (sn_cndK (sn_cndK (show sn_ch (18, 9) = true from rfl) (show sn_ch (0, 0) = true from rfl)) (sn_cndK (show sn_ch (1, 8) = true from rfl) (show sn_ch (0, 0) = true from rfl))) (sn_cndK (show sn_ch (1, 8) = true from rfl) (show sn_ch (0, 0) = true from rfl)))) (sn_cndK (sn_cndK (sn_cndK (sn_cndK (show sn_ch (13, 3) = true from rfl) (show sn_ch (0, 0) = true from rfl)) (sn_cndK (show sn_ch (1, 8) = true from rfl) (show sn_ch (0, 0) = true from rfl))) (sn_cndK (show sn_ch (1, 8) = true from rfl) (show sn_ch (0, 0) = true from rfl))) (sn_cndK (sn_cndK (sn_cndK (show sn_ch (13, 3) = true from rfl) (show sn_ch (0, 0) = true from rfl)) (sn_cndK (show sn_ch (1, 8) = true from rfl) (show sn_ch (0, 0) = true from rfl))) (sn_cndK (show sn_ch (1, 8) = true from rfl) (show sn_ch (0, 0) = true from rfl)))))) (sn_cndK (sn_cndK (sn_cndK (sn_cndK (sn_cndK (sn_cndK (show sn_ch (1, 8) = true from rfl) (show sn_ch (0, 0) = true from rfl)) (sn_cndK (show sn_ch (16, 4) = true from rfl) (show sn_ch (0, 0) = true from rfl))) (sn_cndK (sn_cndK (show sn_ch (1, 8) = true from rfl) (show sn_ch (0, 0) = true from rfl)) (sn_cndK (show sn_ch (1, 8) = true from rfl) (show sn_ch (0, 0) = true from rfl)))) (sn_cndK (sn_cndK (sn_cndK (show sn_ch (1, 8) = true from rfl) (show sn_ch (0, 0) = true from rfl)) (sn_cndK (show sn_ch (16, 4) = true from rfl) (show sn_ch (0, 0) = true from rfl))) (sn_cndK (show sn_ch (1, 6) = true from rfl) (show sn_ch (0, 0) = true from rfl)))) (sn_cndK (sn_cndK (sn_cndK (sn_cndK (show sn_ch (1, 6) = true from rfl) (show sn_ch (0, 0) = true from rfl)) (sn_cndK (show sn_ch (1, 6) = true from rfl) (show sn_ch (0, 0) = true from rfl))) (sn_cndK (sn_cndK (show sn_ch (1, 6) = true from rfl) (show sn_ch (0, 0) = true from rfl)) (sn_cndK (show sn_ch (10, 9) = true from rfl) (show sn_ch (0, 0) = true from rfl)))) (sn_cndK (sn_cndK (sn_cndK (show sn_ch (1, 6) = true from rfl) (show sn_ch (0, 0) = true from rfl)) (sn_cndK (show sn_ch (1, 6) = true from rfl) (show sn_ch (0, 0) = true from rfl))) (sn_cndK (show sn_ch (1, 6) = true from rfl) (show sn_ch (0, 0) = true from rfl))))) (sn_cndK (sn_cndK (sn_cndK (sn_cndK (sn_cndK (show sn_ch (1, 6) = true from rfl) (show sn_ch (0, 0) = true from rfl)) (sn_cndK (show sn_ch (10, 9) = true from rfl) (show sn_ch (0, 0) = true from rfl))) (sn_cndK (sn_cndK (show sn_ch (103, 2) = true from rfl) (show sn_ch (0, 0) = true from rfl)) (sn_cndK (show sn_ch (1, 2) = true from rfl) (show sn_ch (0, 0) = true from rfl)))) (sn_cndK (sn_cndK (sn_cndK (show sn_ch (106, 2) = true from rfl) (show sn_ch (0, 0) = true from rfl)) (sn_cndK (show sn_ch (100, 2) = true from rfl) (show sn_ch (0, 0) = true from rfl))) (sn_cndK (show sn_ch (1, 4) = true from rfl) (show sn_ch (0, 0) = true from rfl)))) (sn_cndK (sn_cndK (sn_cndK (sn_cndK (show sn_ch (2, 600) = true from rfl) (show sn_ch (0, 0) = true from rfl)) (sn_cndK (show sn_ch (18, 9) = true from rfl) (show sn_ch (0, 0) = true from rfl))) (sn_cndK (show sn_ch (3, 3) = true from rfl) (show sn_ch (0, 0) = true from rfl))) (sn_cndK (sn_cndK (sn_cndK (show sn_ch (1, 12) = true from rfl) (show sn_ch (0, 0) = true from rfl)) (sn_cndK (show sn_ch (1, 6) = true from rfl) (show sn_ch (0, 0) = true from rfl))) (sn_cndK (show sn_ch (1, 12) = true from rfl) (show sn_ch (0, 0) = true from rfl)))))))) (sn_cndK (sn_cndK (sn_cndK (sn_cndK (sn_cndK (sn_cndK (sn_cndK (sn_cndK (show sn_ch (1, 84) = true from rfl) (show sn_ch (0, 0) = true from rfl)) (sn_cndK (show sn_ch (3, 4096) = true from rfl) (show sn_ch (0, 0) = true from rfl))) (sn_cndK (sn_cndK (show sn_ch (4, 100) = true from rfl) (show sn_ch (0, 0) = true from rfl)) (sn_cndK (show sn_ch (4, 100) = true from rfl) (show sn_ch (0, 0) = true from rfl)))) (sn_cndK (sn_cndK (sn_cndK (show sn_ch (1, 2401) = true from rfl) (show sn_ch (0, 0) = true from rfl)) (sn_cndK (show sn_ch (1, 6) = true from rfl) (show sn_ch (0, 0) = true from rfl))) (sn_cndK (show sn_ch (1, 4096) = true from rfl) (show sn_ch (0, 0) = true from rfl)))) (sn_cndK (sn_cndK (sn_cndK (sn_cndK (show sn_ch (1, 8) = true from rfl) (show sn_ch (0, 0) = true from rfl)) (sn_cndK (show sn_ch (1, 8) = true from rfl) (show sn_ch (0, 0) = true from rfl))) (sn_cndK (sn_cndK (show sn_ch (1, 12) = true from rfl) (show sn_ch (0, 0) = true from rfl)) (sn_cndK (show sn_ch (1, 12) = true from rfl) (show sn_ch (0, 0) = true from rfl)))) (sn_cndK (sn_cndK (sn_cndK (show sn_ch (1, 12) = true from rfl) (show sn_ch (0, 0) = true from rfl)) (sn_cndK (show sn_ch (1, 12) = true from rfl) (show sn_ch (0, 0) = true from rfl))) (sn_cndK (show sn_ch (1, 12) = true from rfl) (show sn_ch (0, 0) = true from rfl))))) (sn_cndK (sn_cndK (sn_cndK (sn_cndK (sn_cndK (show sn_ch (1, 12) = true from rfl) (show sn_ch (0, 0) = true from rfl)) (sn_cndK (show sn_ch (1, 6) = true from rfl) (show sn_ch (0, 0) = true from rfl))) (sn_cndK (sn_cndK (show sn_ch (1, 12) = true from rfl) (show sn_ch (0, 0) = true from rfl)) (sn_cndK (show sn_ch (1, 4) = true from rfl) (show sn_ch (0, 0) = true from rfl)))) (sn_cndK (sn_cndK (sn_cndK (show sn_ch (1, 29) = true from rfl) (show sn_ch (0, 0) = true from rfl)) (sn_cndK (show sn_ch (1, 136) = true from rfl) (show sn_ch (0, 0) = true from rfl))) (sn_cndK (show sn_ch (1, 8) = true from rfl) (show sn_ch (0, 0) = true from rfl)))) (sn_cndK (sn_cndK (sn_cndK (sn_cndK (show sn_ch (1, 200) = true from rfl) (show sn_ch (0, 0) = true from rfl)) (sn_cndK (show sn_ch (1, 232) = true from rfl) (show sn_ch (0, 0) = true from rfl))) (sn_cndK (sn_cndK (show sn_ch (1, 16) = true from rfl) (show sn_ch (0, 0) = true from rfl)) (sn_cndK (show sn_ch (1, 4) = true from rfl) (show sn_ch (0, 0) = true from rfl)))) (sn_cndK (sn_cndK (sn_cndK (show sn_ch (1, 4) = true from rfl) (show sn_ch (0, 0) = true from rfl)) (sn_cndK (show sn_ch (1, 4) = true from rfl) (show sn_ch (0, 0) = true from rfl))) (sn_cndK (show sn_ch (2, 2400) = true from rfl) (show sn_ch (0, 0) = true from rfl)))))) (sn_cndK (sn_cndK (sn_cndK (sn_cndK (sn_cndK (sn_cndK (show sn_ch (21, 63) = true from rfl) (show sn_ch (0, 0) = true from rfl)) (sn_cndK (show sn_ch (1, 6) = true from rfl) (show sn_ch (0, 0) = true from rfl))) (sn_cndK (sn_cndK (show sn_ch (1, 6) = true from rfl) (show sn_ch (0, 0) = true from rfl)) (sn_cndK (show sn_ch (109, 4) = true from rfl) (show sn_ch (0, 0) = true from rfl)))) (sn_cndK (sn_cndK (sn_cndK (show sn_ch (1, 96) = true from rfl) (show sn_ch (0, 0) = true from rfl)) (sn_cndK (show sn_ch (11, 4) = true from rfl) (show sn_ch (0, 0) = true from rfl))) (sn_cndK (show sn_ch (1, 6) = true from rfl) (show sn_ch (0, 0) = true from rfl)))) (sn_cndK (sn_cndK (sn_cndK (sn_cndK (show sn_ch (1, 6) = true from rfl) (show sn_ch (0, 0) = true from rfl)) (sn_cndK (show sn_ch (12, 2) = true from rfl) (show sn_ch (0, 0) = true from rfl))) (sn_cndK (sn_cndK (show sn_ch (1, 12) = true from rfl) (show sn_ch (0, 0) = true from rfl)) (sn_cndK (show sn_ch (1, 12) = true from rfl) (show sn_ch (0, 0) = true from rfl)))) (sn_cndK (sn_cndK (sn_cndK (show sn_ch (1, 12) = true from rfl) (show sn_ch (0, 0) = true from rfl)) (sn_cndK (show sn_ch (1, 12) = true from rfl) (show sn_ch (0, 0) = true from rfl))) (sn_cndK (show sn_ch (1, 12) = true from rfl) (show sn_ch (0, 0) = true from rfl))))) (sn_cndK (sn_cndK (sn_cndK (sn_cndK (sn_cndK (show sn_ch (1, 12) = true from rfl) (show sn_ch (0, 0) = true from rfl)) (sn_cndK (show sn_ch (1, 12) = true from rfl) (show sn_ch (0, 0) = true from rfl))) (sn_cndK (sn_cndK (show sn_ch (1, 12) = true from rfl) (show sn_ch (0, 0) = true from rfl)) (sn_cndK (show sn_ch (1, 12) = true from rfl) (show sn_ch (0, 0) = true from rfl)))) (sn_cndK (sn_cndK (sn_cndK (show sn_ch (6, 9) = true from rfl) (show sn_ch (0, 0) = true from rfl)) (sn_cndK (show sn_ch (1, 8) = true from rfl) (show sn_ch (0, 0) = true from rfl))) (sn_cndK (show sn_ch (1, 8) = true from rfl) (show sn_ch (0, 0) = true from rfl)))) (sn_cndK (sn_cndK (sn_cndK (sn_cndK (show sn_ch (17, 7) = true from rfl) (show sn_ch (0, 0) = true from rfl)) (sn_cndK (show sn_ch (1, 13) = true from rfl) (show sn_ch (0, 0) = true from rfl))) (sn_cndK (show sn_ch (1, 13) = true from rfl) (show sn_ch (0, 0) = true from rfl))) (sn_cndK (sn_cndK (sn_cndK (show sn_ch (1, 13) = true from rfl) (show sn_ch (0, 0) = true from rfl)) (sn_cndK (show sn_ch (1, 13) = true from rfl) (show sn_ch (0, 0) = true from rfl))) (sn_cndK (show sn_ch (1, 13) = true from rfl) (show sn_ch (0, 0) = true from rfl))))))) (sn_cndK (sn_cndK (sn_cndK (sn_cndK (sn_cndK (sn_cndK (sn_cndK (show sn_ch (1, 13) = true from rfl) (show sn_ch (0, 0) = true from rfl)) (sn_cndK (show sn_ch (1, 13) = true from rfl) (show sn_ch (0, 0) = true from rfl))) (sn_cndK (sn_cndK (show sn_ch (1, 12) = true from rfl) (show sn_ch (0, 0) = true from rfl)) (sn_cndK (show sn_ch (1, 6) = true from rfl) (show sn_ch (0, 0) = true from rfl)))) (sn_cndK (sn_cndK (sn_cndK (show sn_ch (1, 6) = true from rfl) (show sn_ch (0, 0) = true from rfl)) (sn_cndK (show sn_ch (14, 16) = true from rfl) (show sn_ch (0, 0) = true from rfl))) (sn_cndK (show sn_ch (1, 4) = true from rfl) (show sn_ch (0, 0) = true from rfl)))) (sn_cndK (sn_cndK (sn_cndK (sn_cndK (show sn_ch (2, 0) = true from rfl) (show sn_ch (0, 0) = true from rfl)) (sn_cndK (show sn_ch (1, 8) = true from rfl) (show sn_ch (0, 0) = true from rfl))) (sn_cndK (sn_cndK (show sn_ch (1, 8) = true from rfl) (show sn_ch (0, 0) = true from rfl)) (sn_cndK (show sn_ch (13, 3) = true from rfl) (show sn_ch (0, 0) = true from rfl)))) (sn_cndK (sn_cndK (sn_cndK (show sn_ch (1, 8) = true from rfl) (show sn_ch (0, 0) = true from rfl)) (sn_cndK (show sn_ch (1, 8) = true from rfl) (show sn_ch (0, 0) = true from rfl))) (sn_cndK (show sn_ch (1, 8) = true from rfl) (show sn_ch (0, 0) = true from rfl))))) (sn_cndK (sn_cndK (sn_cndK (sn_cndK (sn_cndK (show sn_ch (16, 4) = true from rfl) (show sn_ch (0, 0) = true from rfl)) (sn_cndK (show sn_ch (1, 6) = true from rfl) (show sn_ch (0, 0) = true from rfl))) (sn_cndK (sn_cndK (show sn_ch (1, 6) = true from rfl) (show sn_ch (0, 0) = true from rfl)) (sn_cndK (show sn_ch (1, 6) = true from rfl) (show sn_ch (0, 0) = true from rfl)))) (sn_cndK (sn_cndK (sn_cndK (show sn_ch (1, 6) = true from rfl) (show sn_ch (0, 0) = true from rfl)) (sn_cndK (show sn_ch (10, 9) = true from rfl) (show sn_ch (0, 0) = true from rfl))) (sn_cndK (show sn_ch (15, 12) = true from rfl) (show sn_ch (0, 0) = true from rfl)))) (sn_cndK (sn_cndK (sn_cndK (sn_cndK (show sn_ch (108, 3) = true from rfl) (show sn_ch (0, 0) = true from rfl)) (sn_cndK (show sn_ch (1, 8) = true from rfl) (show sn_ch (0, 0) = true from rfl))) (sn_cndK (show sn_ch (1, 8) = true from rfl) (show sn_ch (0, 0) = true from rfl))) (sn_cndK (sn_cndK (sn_cndK (show sn_ch (13, 3) = true from rfl) (show sn_ch (0, 0) = true from rfl)) (sn_cndK (show sn_ch (1, 8) = true from rfl) (show sn_ch (0, 0) = true from rfl))) (sn_cndK (show sn_ch (1, 8) = true from rfl) (show sn_ch (0, 0) = true from rfl)))))) (sn_cndK (sn_cndK (sn_cndK (sn_cndK (sn_cndK (sn_cndK (show sn_ch (13, 3) = true from rfl) (show sn_ch (0, 0) = true from rfl)) (sn_cndK (show sn_ch (1, 8) = true from rfl) (show sn_ch (0, 0) = true from rfl))) (sn_cndK (sn_cndK (show sn_ch (1, 8) = true from rfl) (show sn_ch (0, 0) = true from rfl)) (sn_cndK (show sn_ch (1, 8) = true from rfl) (show sn_ch (0, 0) = true from rfl)))) (sn_cndK (sn_cndK (sn_cndK (show sn_ch (16, 4) = true from rfl) (show sn_ch (0, 0) = true from rfl)) (sn_cndK (show sn_ch (1, 8) = true from rfl) (show sn_ch (0, 0) = true from rfl))) (sn_cndK (show sn_ch (1, 8) = true from rfl) (show sn_ch (0, 0) = true from rfl)))) (sn_cndK (sn_cndK (sn_cndK (sn_cndK (show sn_ch (1, 8) = true from rfl) (show sn_ch (0, 0) = true from rfl)) (sn_cndK (show sn_ch (16, 4) = true from rfl) (show sn_ch (0, 0) = true from rfl))) (sn_cndK (sn_cndK (show sn_ch (1, 6) = true from rfl) (show sn_ch (0, 0) = true from rfl)) (sn_cndK (show sn_ch (1, 6) = true from rfl) (show sn_ch (0, 0) = true from rfl)))) (sn_cndK (sn_cndK (sn_cndK (show sn_ch (1, 6) = true from rfl) (show sn_ch (0, 0) = true from rfl)) (sn_cndK (show sn_ch (1, 6) = true from rfl) (show sn_ch (0, 0) = true from rfl))) (sn_cndK (show sn_ch (10, 9) = true from rfl) (show sn_ch (0, 0) = true from rfl))))) (sn_cndK (sn_cndK (sn_cndK (sn_cndK (sn_cndK (show sn_ch (1, 6) = true from rfl) (show sn_ch (0, 0) = true from rfl)) (sn_cndK (show sn_ch (1, 6) = true from rfl) (show sn_ch (0, 0) = true from rfl))) (sn_cndK (sn_cndK (show sn_ch (1, 6) = true from rfl) (show sn_ch (0, 0) = true from rfl)) (sn_cndK (show sn_ch (1, 6) = true from rfl) (show sn_ch (0, 0) = true from rfl)))) (sn_cndK (sn_cndK (sn_cndK (show sn_ch (10, 9) = true from rfl) (show sn_ch (0, 0) = true from rfl)) (sn_cndK (show sn_ch (103, 2) = true from rfl) (show sn_ch (0, 0) = true from rfl))) (sn_cndK (show sn_ch (1, 2) = true from rfl) (show sn_ch (0, 0) = true from rfl)))) (sn_cndK (sn_cndK (sn_cndK (sn_cndK (show sn_ch (106, 2) = true from rfl) (show sn_ch (0, 0) = true from rfl)) (sn_cndK (show sn_ch (100, 2) = true from rfl) (show sn_ch (0, 0) = true from rfl))) (sn_cndK (show sn_ch (1, 4) = true from rfl) (show sn_ch (0, 0) = true from rfl))) (sn_cndK (sn_cndK (sn_cndK (show sn_ch (2, 600) = true from rfl) (show sn_ch (0, 0) = true from rfl)) (sn_cndK (show sn_ch (18, 9) = true from rfl) (show sn_ch (0, 0) = true from rfl))) (sn_cndK (show sn_ch (20, 10) = true from rfl) (show sn_ch (0, 0) = true from rfl)))))))))
theorem sn_kdN {a ci : Nat} (h : (pm_kd a).1 = 10 + ci) (hc : ci < 12) : (pm_kd a).2 = sn_nf ci := by
  have h1 := sn_kdok a
  unfold sn_ch at h1
  rw [h, Nat.ble_eq_true_of_le (by omega : 10 ≤ 10 + ci), Nat.ble_eq_true_of_le (by omega : 10 + ci ≤ 50), Nat.add_sub_cancel_left] at h1
  have h1 : (Nat.beq (pm_kd a).2 (sn_nf ci) && Nat.ble (10 + ci) 21) = true := h1
  rw [Bool.and_eq_true] at h1
  exact Nat.eq_of_beq_eq_true h1.1
theorem sn_kdT (a : Nat) : (10 ≤ (pm_kd a).1 ∧ (pm_kd a).1 ≤ 21) ∨ ((pm_kd a).2 ≤ 5000 ∧ ((pm_kd a).1 ≤ 4 ∨ (pm_kd a).1 = 6 ∨ (pm_kd a).1 = 100 ∨ (pm_kd a).1 = 103 ∨ (pm_kd a).1 = 106 ∨ (pm_kd a).1 = 108 ∨ (pm_kd a).1 = 109)) := by
  have h1 := sn_kdok a
  unfold sn_ch at h1
  cases h2 : (Nat.ble 10 (pm_kd a).1 && Nat.ble (pm_kd a).1 50) with
  | true =>
    rw [h2] at h1
    simp only [Bool.and_eq_true, Nat.ble_eq, cond_true] at h1 h2
    exact Or.inl ⟨h2.1, h1.2⟩
  | false =>
    rw [h2] at h1
    simp only [cond_false, Bool.and_eq_true, Bool.or_eq_true, Nat.ble_eq, Nat.beq_eq] at h1
    refine Or.inr ⟨h1.1, ?_⟩
    omega
theorem sn_uw_0 : ∀ w ∈ u_ws RX0 TX0 9, w ∈ sn_GT := by
  intro w hw
  obtain ⟨k, hk, rfl⟩ := List.mem_map.mp hw
  have hk := List.mem_range.mp hk
  match k, hk with
  | 0, _ => exact sn_lay_0_0
  | 1, _ => exact sn_lay_0_1
  | 2, _ => exact sn_lay_0_2
  | 3, _ => exact sn_lay_0_3
  | 4, _ => exact sn_lay_0_4
  | 5, _ => exact sn_lay_0_5
  | 6, _ => exact sn_lay_0_6
  | 7, _ => exact sn_lay_0_7
  | 8, _ => exact sn_lay_0_8
  | k + 9, h => omega
theorem sn_tk_0 : ∀ j, j < 9 → (TX0 j).1 = RX0 ∧ sn_tm (pm_ft 0 j) (tyX0 j) := by
  intro j hj
  match j, hj with
  | 0, _ => exact ⟨rfl, Or.inl ⟨rfl, rfl⟩⟩
  | 1, _ => exact ⟨rfl, Or.inl ⟨rfl, rfl⟩⟩
  | 2, _ => exact ⟨rfl, Or.inl ⟨rfl, rfl⟩⟩
  | 3, _ => exact ⟨rfl, Or.inl ⟨rfl, rfl⟩⟩
  | 4, _ => exact ⟨rfl, Or.inl ⟨rfl, rfl⟩⟩
  | 5, _ => exact ⟨rfl, Or.inr (Or.inr (Or.inr ⟨rfl, rfl, rfl⟩))⟩
  | 6, _ => exact ⟨rfl, Or.inr (Or.inr (Or.inr ⟨rfl, rfl, rfl⟩))⟩
  | 7, _ => exact ⟨rfl, Or.inr (Or.inr (Or.inr ⟨rfl, rfl, rfl⟩))⟩
  | 8, _ => exact ⟨rfl, Or.inr (Or.inr (Or.inr ⟨rfl, rfl, rfl⟩))⟩
  | j + 9, h => omega
theorem sn_cls_0 : sn_ck 0 RX0 TX0 9 tyX0 := ⟨rfl, sn_uw_0, tyX0_ok, nmX0, sn_tk_0, sn_GT_of (i := 149) (by decide +kernel) rfl, sn_GT_of (i := 111) (by decide +kernel) rfl, rfl, rfl⟩
theorem sn_uw_1 : ∀ w ∈ u_ws RX2 TX2 4, w ∈ sn_GT := by
  intro w hw
  obtain ⟨k, hk, rfl⟩ := List.mem_map.mp hw
  have hk := List.mem_range.mp hk
  match k, hk with
  | 0, _ => exact sn_lay_1_0
  | 1, _ => exact sn_lay_1_1
  | 2, _ => exact sn_lay_1_2
  | 3, _ => exact sn_lay_1_3
  | k + 4, h => omega
theorem sn_tk_1 : ∀ j, j < 4 → (TX2 j).1 = RX2 ∧ sn_tm (pm_ft 1 j) (tyX2 j) := by
  intro j hj
  match j, hj with
  | 0, _ => exact ⟨rfl, Or.inr (Or.inr (Or.inl ⟨rfl, rfl⟩))⟩
  | 1, _ => exact ⟨rfl, Or.inr (Or.inr (Or.inl ⟨rfl, rfl⟩))⟩
  | 2, _ => exact ⟨rfl, Or.inr (Or.inl ⟨rfl, rfl⟩)⟩
  | 3, _ => exact ⟨rfl, Or.inr (Or.inr (Or.inr ⟨rfl, rfl, rfl⟩))⟩
  | j + 4, h => omega
theorem sn_cls_1 : sn_ck 1 RX2 TX2 4 tyX2 := ⟨rfl, sn_uw_1, tyX2_ok, nmX2, sn_tk_1, sn_GT_of (i := 472) (by decide +kernel) rfl, sn_GT_of (i := 118) (by decide +kernel) rfl, rfl, rfl⟩
theorem sn_uw_2 : ∀ w ∈ u_ws RX3 TX3 2, w ∈ sn_GT := by
  intro w hw
  obtain ⟨k, hk, rfl⟩ := List.mem_map.mp hw
  have hk := List.mem_range.mp hk
  match k, hk with
  | 0, _ => exact sn_lay_2_0
  | 1, _ => exact sn_lay_2_1
  | k + 2, h => omega
theorem sn_tk_2 : ∀ j, j < 2 → (TX3 j).1 = RX3 ∧ sn_tm (pm_ft 2 j) (tyX3 j) := by
  intro j hj
  match j, hj with
  | 0, _ => exact ⟨rfl, Or.inr (Or.inr (Or.inr ⟨rfl, rfl, rfl⟩))⟩
  | 1, _ => exact ⟨rfl, Or.inr (Or.inr (Or.inr ⟨rfl, rfl, rfl⟩))⟩
  | j + 2, h => omega
theorem sn_cls_2 : sn_ck 2 RX3 TX3 2 tyX3 := ⟨rfl, sn_uw_2, tyX3_ok, nmX3, sn_tk_2, sn_GT_of (i := 458) (by decide +kernel) rfl, sn_GT_of (i := 117) (by decide +kernel) rfl, rfl, rfl⟩
theorem sn_uw_3 : ∀ w ∈ u_ws RX4 TX4 3, w ∈ sn_GT := by
  intro w hw
  obtain ⟨k, hk, rfl⟩ := List.mem_map.mp hw
  have hk := List.mem_range.mp hk
  match k, hk with
  | 0, _ => exact sn_lay_3_0
  | 1, _ => exact sn_lay_3_1
  | 2, _ => exact sn_lay_3_2
  | k + 3, h => omega
theorem sn_tk_3 : ∀ j, j < 3 → (TX4 j).1 = RX4 ∧ sn_tm (pm_ft 3 j) (tyX4 j) := by
  intro j hj
  match j, hj with
  | 0, _ => exact ⟨rfl, Or.inl ⟨rfl, rfl⟩⟩
  | 1, _ => exact ⟨rfl, Or.inr (Or.inr (Or.inr ⟨rfl, rfl, rfl⟩))⟩
  | 2, _ => exact ⟨rfl, Or.inr (Or.inr (Or.inr ⟨rfl, rfl, rfl⟩))⟩
  | j + 3, h => omega
theorem sn_cls_3 : sn_ck 3 RX4 TX4 3 tyX4 := ⟨rfl, sn_uw_3, tyX4_ok, nmX4, sn_tk_3, sn_GT_of (i := 243) (by decide +kernel) rfl, sn_GT_of (i := 113) (by decide +kernel) rfl, rfl, rfl⟩
theorem sn_uw_4 : ∀ w ∈ u_ws RX5 TX5 16, w ∈ sn_GT := by
  intro w hw
  obtain ⟨k, hk, rfl⟩ := List.mem_map.mp hw
  have hk := List.mem_range.mp hk
  match k, hk with
  | 0, _ => exact sn_lay_4_0
  | 1, _ => exact sn_lay_4_1
  | 2, _ => exact sn_lay_4_2
  | 3, _ => exact sn_lay_4_3
  | 4, _ => exact sn_lay_4_4
  | 5, _ => exact sn_lay_4_5
  | 6, _ => exact sn_lay_4_6
  | 7, _ => exact sn_lay_4_7
  | 8, _ => exact sn_lay_4_8
  | 9, _ => exact sn_lay_4_9
  | 10, _ => exact sn_lay_4_10
  | 11, _ => exact sn_lay_4_11
  | 12, _ => exact sn_lay_4_12
  | 13, _ => exact sn_lay_4_13
  | 14, _ => exact sn_lay_4_14
  | 15, _ => exact sn_lay_4_15
  | k + 16, h => omega
theorem sn_tk_4 : ∀ j, j < 16 → (TX5 j).1 = RX5 ∧ sn_tm (pm_ft 4 j) (tyX5 j) := by
  intro j hj
  match j, hj with
  | 0, _ => exact ⟨rfl, Or.inl ⟨rfl, rfl⟩⟩
  | 1, _ => exact ⟨rfl, Or.inl ⟨rfl, rfl⟩⟩
  | 2, _ => exact ⟨rfl, Or.inl ⟨rfl, rfl⟩⟩
  | 3, _ => exact ⟨rfl, Or.inl ⟨rfl, rfl⟩⟩
  | 4, _ => exact ⟨rfl, Or.inl ⟨rfl, rfl⟩⟩
  | 5, _ => exact ⟨rfl, Or.inr (Or.inr (Or.inr ⟨rfl, rfl, rfl⟩))⟩
  | 6, _ => exact ⟨rfl, Or.inr (Or.inr (Or.inr ⟨rfl, rfl, rfl⟩))⟩
  | 7, _ => exact ⟨rfl, Or.inr (Or.inr (Or.inr ⟨rfl, rfl, rfl⟩))⟩
  | 8, _ => exact ⟨rfl, Or.inr (Or.inr (Or.inr ⟨rfl, rfl, rfl⟩))⟩
  | 9, _ => exact ⟨rfl, Or.inr (Or.inr (Or.inr ⟨rfl, rfl, rfl⟩))⟩
  | 10, _ => exact ⟨rfl, Or.inr (Or.inr (Or.inr ⟨rfl, rfl, rfl⟩))⟩
  | 11, _ => exact ⟨rfl, Or.inr (Or.inr (Or.inr ⟨rfl, rfl, rfl⟩))⟩
  | 12, _ => exact ⟨rfl, Or.inr (Or.inr (Or.inr ⟨rfl, rfl, rfl⟩))⟩
  | 13, _ => exact ⟨rfl, Or.inr (Or.inr (Or.inr ⟨rfl, rfl, rfl⟩))⟩
  | 14, _ => exact ⟨rfl, Or.inr (Or.inr (Or.inr ⟨rfl, rfl, rfl⟩))⟩
  | 15, _ => exact ⟨rfl, Or.inl ⟨rfl, rfl⟩⟩
  | j + 16, h => omega
theorem sn_cls_4 : sn_ck 4 RX5 TX5 16 tyX5 := ⟨rfl, sn_uw_4, tyX5_ok, nmX5, sn_tk_4, sn_GT_of (i := 359) (by decide +kernel) rfl, sn_GT_of (i := 115) (by decide +kernel) rfl, rfl, rfl⟩
theorem sn_uw_5 : ∀ w ∈ u_ws RX6 TX6 12, w ∈ sn_GT := by
  intro w hw
  obtain ⟨k, hk, rfl⟩ := List.mem_map.mp hw
  have hk := List.mem_range.mp hk
  match k, hk with
  | 0, _ => exact sn_lay_5_0
  | 1, _ => exact sn_lay_5_1
  | 2, _ => exact sn_lay_5_2
  | 3, _ => exact sn_lay_5_3
  | 4, _ => exact sn_lay_5_4
  | 5, _ => exact sn_lay_5_5
  | 6, _ => exact sn_lay_5_6
  | 7, _ => exact sn_lay_5_7
  | 8, _ => exact sn_lay_5_8
  | 9, _ => exact sn_lay_5_9
  | 10, _ => exact sn_lay_5_10
  | 11, _ => exact sn_lay_5_11
  | k + 12, h => omega
theorem sn_tk_5 : ∀ j, j < 12 → (TX6 j).1 = RX6 ∧ sn_tm (pm_ft 5 j) (tyX6 j) := by
  intro j hj
  match j, hj with
  | 0, _ => exact ⟨rfl, Or.inr (Or.inr (Or.inr ⟨rfl, rfl, rfl⟩))⟩
  | 1, _ => exact ⟨rfl, Or.inr (Or.inr (Or.inr ⟨rfl, rfl, rfl⟩))⟩
  | 2, _ => exact ⟨rfl, Or.inr (Or.inr (Or.inr ⟨rfl, rfl, rfl⟩))⟩
  | 3, _ => exact ⟨rfl, Or.inl ⟨rfl, rfl⟩⟩
  | 4, _ => exact ⟨rfl, Or.inl ⟨rfl, rfl⟩⟩
  | 5, _ => exact ⟨rfl, Or.inl ⟨rfl, rfl⟩⟩
  | 6, _ => exact ⟨rfl, Or.inr (Or.inr (Or.inr ⟨rfl, rfl, rfl⟩))⟩
  | 7, _ => exact ⟨rfl, Or.inl ⟨rfl, rfl⟩⟩
  | 8, _ => exact ⟨rfl, Or.inl ⟨rfl, rfl⟩⟩
  | 9, _ => exact ⟨rfl, Or.inl ⟨rfl, rfl⟩⟩
  | 10, _ => exact ⟨rfl, Or.inl ⟨rfl, rfl⟩⟩
  | 11, _ => exact ⟨rfl, Or.inr (Or.inr (Or.inr ⟨rfl, rfl, rfl⟩))⟩
  | j + 12, h => omega
theorem sn_cls_5 : sn_ck 5 RX6 TX6 12 tyX6 := ⟨rfl, sn_uw_5, tyX6_ok, nmX6, sn_tk_5, sn_GT_of (i := 304) (by decide +kernel) rfl, sn_GT_of (i := 114) (by decide +kernel) rfl, rfl, rfl⟩
theorem sn_uw_6 : ∀ w ∈ u_ws RX7 TX7 4, w ∈ sn_GT := by
  intro w hw
  obtain ⟨k, hk, rfl⟩ := List.mem_map.mp hw
  have hk := List.mem_range.mp hk
  match k, hk with
  | 0, _ => exact sn_lay_6_0
  | 1, _ => exact sn_lay_6_1
  | 2, _ => exact sn_lay_6_2
  | 3, _ => exact sn_lay_6_3
  | k + 4, h => omega
theorem sn_tk_6 : ∀ j, j < 4 → (TX7 j).1 = RX7 ∧ sn_tm (pm_ft 6 j) (tyX7 j) := by
  intro j hj
  match j, hj with
  | 0, _ => exact ⟨rfl, Or.inl ⟨rfl, rfl⟩⟩
  | 1, _ => exact ⟨rfl, Or.inr (Or.inr (Or.inr ⟨rfl, rfl, rfl⟩))⟩
  | 2, _ => exact ⟨rfl, Or.inr (Or.inr (Or.inr ⟨rfl, rfl, rfl⟩))⟩
  | 3, _ => exact ⟨rfl, Or.inr (Or.inr (Or.inr ⟨rfl, rfl, rfl⟩))⟩
  | j + 4, h => omega
theorem sn_cls_6 : sn_ck 6 RX7 TX7 4 tyX7 := ⟨rfl, sn_uw_6, tyX7_ok, nmX7, sn_tk_6, sn_GT_of (i := 213) (by decide +kernel) rfl, sn_GT_of (i := 112) (by decide +kernel) rfl, rfl, rfl⟩
theorem sn_uw_7 : ∀ w ∈ u_ws RX8 TX8 7, w ∈ sn_GT := by
  intro w hw
  obtain ⟨k, hk, rfl⟩ := List.mem_map.mp hw
  have hk := List.mem_range.mp hk
  match k, hk with
  | 0, _ => exact sn_lay_7_0
  | 1, _ => exact sn_lay_7_1
  | 2, _ => exact sn_lay_7_2
  | 3, _ => exact sn_lay_7_3
  | 4, _ => exact sn_lay_7_4
  | 5, _ => exact sn_lay_7_5
  | 6, _ => exact sn_lay_7_6
  | k + 7, h => omega
theorem sn_tk_7 : ∀ j, j < 7 → (TX8 j).1 = RX8 ∧ sn_tm (pm_ft 7 j) (tyX8 j) := by
  intro j hj
  match j, hj with
  | 0, _ => exact ⟨rfl, Or.inl ⟨rfl, rfl⟩⟩
  | 1, _ => exact ⟨rfl, Or.inr (Or.inr (Or.inr ⟨rfl, rfl, rfl⟩))⟩
  | 2, _ => exact ⟨rfl, Or.inr (Or.inl ⟨rfl, rfl⟩)⟩
  | 3, _ => exact ⟨rfl, Or.inl ⟨rfl, rfl⟩⟩
  | 4, _ => exact ⟨rfl, Or.inl ⟨rfl, rfl⟩⟩
  | 5, _ => exact ⟨rfl, Or.inr (Or.inr (Or.inr ⟨rfl, rfl, rfl⟩))⟩
  | 6, _ => exact ⟨rfl, Or.inr (Or.inr (Or.inr ⟨rfl, rfl, rfl⟩))⟩
  | j + 7, h => omega
theorem sn_cls_7 : sn_ck 7 RX8 TX8 7 tyX8 := ⟨rfl, sn_uw_7, tyX8_ok, nmX8, sn_tk_7, sn_GT_of (i := 426) (by decide +kernel) rfl, sn_GT_of (i := 116) (by decide +kernel) rfl, rfl, rfl⟩
theorem sn_uw_8 : ∀ w ∈ u_ws RX9 TX9 9, w ∈ sn_GT := by
  intro w hw
  obtain ⟨k, hk, rfl⟩ := List.mem_map.mp hw
  have hk := List.mem_range.mp hk
  match k, hk with
  | 0, _ => exact sn_lay_8_0
  | 1, _ => exact sn_lay_8_1
  | 2, _ => exact sn_lay_8_2
  | 3, _ => exact sn_lay_8_3
  | 4, _ => exact sn_lay_8_4
  | 5, _ => exact sn_lay_8_5
  | 6, _ => exact sn_lay_8_6
  | 7, _ => exact sn_lay_8_7
  | 8, _ => exact sn_lay_8_8
  | k + 9, h => omega
theorem sn_tk_8 : ∀ j, j < 9 → (TX9 j).1 = RX9 ∧ sn_tm (pm_ft 8 j) (tyX9 j) := by
  intro j hj
  match j, hj with
  | 0, _ => exact ⟨rfl, Or.inr (Or.inr (Or.inr ⟨rfl, rfl, rfl⟩))⟩
  | 1, _ => exact ⟨rfl, Or.inl ⟨rfl, rfl⟩⟩
  | 2, _ => exact ⟨rfl, Or.inl ⟨rfl, rfl⟩⟩
  | 3, _ => exact ⟨rfl, Or.inl ⟨rfl, rfl⟩⟩
  | 4, _ => exact ⟨rfl, Or.inr (Or.inr (Or.inr ⟨rfl, rfl, rfl⟩))⟩
  | 5, _ => exact ⟨rfl, Or.inr (Or.inr (Or.inr ⟨rfl, rfl, rfl⟩))⟩
  | 6, _ => exact ⟨rfl, Or.inr (Or.inr (Or.inr ⟨rfl, rfl, rfl⟩))⟩
  | 7, _ => exact ⟨rfl, Or.inr (Or.inr (Or.inr ⟨rfl, rfl, rfl⟩))⟩
  | 8, _ => exact ⟨rfl, Or.inr (Or.inr (Or.inr ⟨rfl, rfl, rfl⟩))⟩
  | j + 9, h => omega
theorem sn_cls_8 : sn_ck 8 RX9 TX9 9 tyX9 := ⟨rfl, sn_uw_8, tyX9_ok, nmX9, sn_tk_8, sn_GT_of (i := 138) (by decide +kernel) rfl, sn_GT_of (i := 110) (by decide +kernel) rfl, rfl, rfl⟩
theorem sn_uw_9 : ∀ w ∈ u_ws RX10 TX10 4, w ∈ sn_GT := by
  intro w hw
  obtain ⟨k, hk, rfl⟩ := List.mem_map.mp hw
  have hk := List.mem_range.mp hk
  match k, hk with
  | 0, _ => exact sn_lay_9_0
  | 1, _ => exact sn_lay_9_1
  | 2, _ => exact sn_lay_9_2
  | 3, _ => exact sn_lay_9_3
  | k + 4, h => omega
theorem sn_tk_9 : ∀ j, j < 4 → (TX10 j).1 = RX10 ∧ sn_tm (pm_ft 9 j) (tyX10 j) := by
  intro j hj
  match j, hj with
  | 0, _ => exact ⟨rfl, Or.inr (Or.inr (Or.inr ⟨rfl, rfl, rfl⟩))⟩
  | 1, _ => exact ⟨rfl, Or.inr (Or.inr (Or.inr ⟨rfl, rfl, rfl⟩))⟩
  | 2, _ => exact ⟨rfl, Or.inr (Or.inr (Or.inl ⟨rfl, rfl⟩))⟩
  | 3, _ => exact ⟨rfl, Or.inr (Or.inl ⟨rfl, rfl⟩)⟩
  | j + 4, h => omega
theorem sn_cls_9 : sn_ck 9 RX10 TX10 4 tyX10 := ⟨rfl, sn_uw_9, tyX10_ok, nmX10, sn_tk_9, sn_GT_of (i := 1003) (by decide +kernel) rfl, sn_GT_of (i := 126) (by decide +kernel) rfl, rfl, rfl⟩
theorem sn_uw_10 : ∀ w ∈ u_ws RX11 TX11 10, w ∈ sn_GT := by
  intro w hw
  obtain ⟨k, hk, rfl⟩ := List.mem_map.mp hw
  have hk := List.mem_range.mp hk
  match k, hk with
  | 0, _ => exact sn_lay_10_0
  | 1, _ => exact sn_lay_10_1
  | 2, _ => exact sn_lay_10_2
  | 3, _ => exact sn_lay_10_3
  | 4, _ => exact sn_lay_10_4
  | 5, _ => exact sn_lay_10_5
  | 6, _ => exact sn_lay_10_6
  | 7, _ => exact sn_lay_10_7
  | 8, _ => exact sn_lay_10_8
  | 9, _ => exact sn_lay_10_9
  | k + 10, h => omega
theorem sn_tk_10 : ∀ j, j < 10 → (TX11 j).1 = RX11 ∧ sn_tm (pm_ft 10 j) (tyX11 j) := by
  intro j hj
  match j, hj with
  | 0, _ => exact ⟨rfl, Or.inr (Or.inr (Or.inr ⟨rfl, rfl, rfl⟩))⟩
  | 1, _ => exact ⟨rfl, Or.inr (Or.inr (Or.inr ⟨rfl, rfl, rfl⟩))⟩
  | 2, _ => exact ⟨rfl, Or.inr (Or.inr (Or.inr ⟨rfl, rfl, rfl⟩))⟩
  | 3, _ => exact ⟨rfl, Or.inr (Or.inr (Or.inr ⟨rfl, rfl, rfl⟩))⟩
  | 4, _ => exact ⟨rfl, Or.inr (Or.inr (Or.inr ⟨rfl, rfl, rfl⟩))⟩
  | 5, _ => exact ⟨rfl, Or.inr (Or.inr (Or.inr ⟨rfl, rfl, rfl⟩))⟩
  | 6, _ => exact ⟨rfl, Or.inr (Or.inr (Or.inr ⟨rfl, rfl, rfl⟩))⟩
  | 7, _ => exact ⟨rfl, Or.inr (Or.inr (Or.inr ⟨rfl, rfl, rfl⟩))⟩
  | 8, _ => exact ⟨rfl, Or.inr (Or.inr (Or.inr ⟨rfl, rfl, rfl⟩))⟩
  | 9, _ => exact ⟨rfl, Or.inr (Or.inr (Or.inr ⟨rfl, rfl, rfl⟩))⟩
  | j + 10, h => omega
theorem sn_cls_10 : sn_ck 10 RX11 TX11 10 tyX11 := ⟨rfl, sn_uw_10, tyX11_ok, nmX11, sn_tk_10, sn_GT_of (i := 130) (by decide +kernel) rfl, sn_GT_of (i := 109) (by decide +kernel) rfl, rfl, rfl⟩
theorem sn_uw_11 : ∀ w ∈ u_ws RX12 TX12 63, w ∈ sn_GT := by
  intro w hw
  obtain ⟨k, hk, rfl⟩ := List.mem_map.mp hw
  have hk := List.mem_range.mp hk
  match k, hk with
  | 0, _ => exact sn_lay_11_0
  | 1, _ => exact sn_lay_11_1
  | 2, _ => exact sn_lay_11_2
  | 3, _ => exact sn_lay_11_3
  | 4, _ => exact sn_lay_11_4
  | 5, _ => exact sn_lay_11_5
  | 6, _ => exact sn_lay_11_6
  | 7, _ => exact sn_lay_11_7
  | 8, _ => exact sn_lay_11_8
  | 9, _ => exact sn_lay_11_9
  | 10, _ => exact sn_lay_11_10
  | 11, _ => exact sn_lay_11_11
  | 12, _ => exact sn_lay_11_12
  | 13, _ => exact sn_lay_11_13
  | 14, _ => exact sn_lay_11_14
  | 15, _ => exact sn_lay_11_15
  | 16, _ => exact sn_lay_11_16
  | 17, _ => exact sn_lay_11_17
  | 18, _ => exact sn_lay_11_18
  | 19, _ => exact sn_lay_11_19
  | 20, _ => exact sn_lay_11_20
  | 21, _ => exact sn_lay_11_21
  | 22, _ => exact sn_lay_11_22
  | 23, _ => exact sn_lay_11_23
  | 24, _ => exact sn_lay_11_24
  | 25, _ => exact sn_lay_11_25
  | 26, _ => exact sn_lay_11_26
  | 27, _ => exact sn_lay_11_27
  | 28, _ => exact sn_lay_11_28
  | 29, _ => exact sn_lay_11_29
  | 30, _ => exact sn_lay_11_30
  | 31, _ => exact sn_lay_11_31
  | 32, _ => exact sn_lay_11_32
  | 33, _ => exact sn_lay_11_33
  | 34, _ => exact sn_lay_11_34
  | 35, _ => exact sn_lay_11_35
  | 36, _ => exact sn_lay_11_36
  | 37, _ => exact sn_lay_11_37
  | 38, _ => exact sn_lay_11_38
  | 39, _ => exact sn_lay_11_39
  | 40, _ => exact sn_lay_11_40
  | 41, _ => exact sn_lay_11_41
  | 42, _ => exact sn_lay_11_42
  | 43, _ => exact sn_lay_11_43
  | 44, _ => exact sn_lay_11_44
  | 45, _ => exact sn_lay_11_45
  | 46, _ => exact sn_lay_11_46
  | 47, _ => exact sn_lay_11_47
  | 48, _ => exact sn_lay_11_48
  | 49, _ => exact sn_lay_11_49
  | 50, _ => exact sn_lay_11_50
  | 51, _ => exact sn_lay_11_51
  | 52, _ => exact sn_lay_11_52
  | 53, _ => exact sn_lay_11_53
  | 54, _ => exact sn_lay_11_54
  | 55, _ => exact sn_lay_11_55
  | 56, _ => exact sn_lay_11_56
  | 57, _ => exact sn_lay_11_57
  | 58, _ => exact sn_lay_11_58
  | 59, _ => exact sn_lay_11_59
  | 60, _ => exact sn_lay_11_60
  | 61, _ => exact sn_lay_11_61
  | 62, _ => exact sn_lay_11_62
  | k + 63, h => omega
theorem sn_tk_11 : ∀ j, j < 63 → (TX12 j).1 = RX12 ∧ sn_tm (pm_ft 11 j) (tyX12 j) := by
  intro j hj
  match j, hj with
  | 0, _ => exact ⟨rfl, Or.inl ⟨rfl, rfl⟩⟩
  | 1, _ => exact ⟨rfl, Or.inr (Or.inr (Or.inr ⟨rfl, rfl, rfl⟩))⟩
  | 2, _ => exact ⟨rfl, Or.inr (Or.inr (Or.inr ⟨rfl, rfl, rfl⟩))⟩
  | 3, _ => exact ⟨rfl, Or.inr (Or.inr (Or.inr ⟨rfl, rfl, rfl⟩))⟩
  | 4, _ => exact ⟨rfl, Or.inr (Or.inr (Or.inr ⟨rfl, rfl, rfl⟩))⟩
  | 5, _ => exact ⟨rfl, Or.inr (Or.inr (Or.inr ⟨rfl, rfl, rfl⟩))⟩
  | 6, _ => exact ⟨rfl, Or.inr (Or.inr (Or.inr ⟨rfl, rfl, rfl⟩))⟩
  | 7, _ => exact ⟨rfl, Or.inr (Or.inr (Or.inr ⟨rfl, rfl, rfl⟩))⟩
  | 8, _ => exact ⟨rfl, Or.inr (Or.inr (Or.inr ⟨rfl, rfl, rfl⟩))⟩
  | 9, _ => exact ⟨rfl, Or.inr (Or.inr (Or.inr ⟨rfl, rfl, rfl⟩))⟩
  | 10, _ => exact ⟨rfl, Or.inl ⟨rfl, rfl⟩⟩
  | 11, _ => exact ⟨rfl, Or.inl ⟨rfl, rfl⟩⟩
  | 12, _ => exact ⟨rfl, Or.inl ⟨rfl, rfl⟩⟩
  | 13, _ => exact ⟨rfl, Or.inl ⟨rfl, rfl⟩⟩
  | 14, _ => exact ⟨rfl, Or.inl ⟨rfl, rfl⟩⟩
  | 15, _ => exact ⟨rfl, Or.inr (Or.inr (Or.inl ⟨rfl, rfl⟩))⟩
  | 16, _ => exact ⟨rfl, Or.inl ⟨rfl, rfl⟩⟩
  | 17, _ => exact ⟨rfl, Or.inl ⟨rfl, rfl⟩⟩
  | 18, _ => exact ⟨rfl, Or.inl ⟨rfl, rfl⟩⟩
  | 19, _ => exact ⟨rfl, Or.inr (Or.inr (Or.inr ⟨rfl, rfl, rfl⟩))⟩
  | 20, _ => exact ⟨rfl, Or.inr (Or.inr (Or.inr ⟨rfl, rfl, rfl⟩))⟩
  | 21, _ => exact ⟨rfl, Or.inl ⟨rfl, rfl⟩⟩
  | 22, _ => exact ⟨rfl, Or.inr (Or.inl ⟨rfl, rfl⟩)⟩
  | 23, _ => exact ⟨rfl, Or.inl ⟨rfl, rfl⟩⟩
  | 24, _ => exact ⟨rfl, Or.inl ⟨rfl, rfl⟩⟩
  | 25, _ => exact ⟨rfl, Or.inl ⟨rfl, rfl⟩⟩
  | 26, _ => exact ⟨rfl, Or.inr (Or.inr (Or.inr ⟨rfl, rfl, rfl⟩))⟩
  | 27, _ => exact ⟨rfl, Or.inl ⟨rfl, rfl⟩⟩
  | 28, _ => exact ⟨rfl, Or.inl ⟨rfl, rfl⟩⟩
  | 29, _ => exact ⟨rfl, Or.inl ⟨rfl, rfl⟩⟩
  | 30, _ => exact ⟨rfl, Or.inr (Or.inr (Or.inr ⟨rfl, rfl, rfl⟩))⟩
  | 31, _ => exact ⟨rfl, Or.inr (Or.inr (Or.inr ⟨rfl, rfl, rfl⟩))⟩
  | 32, _ => exact ⟨rfl, Or.inr (Or.inr (Or.inr ⟨rfl, rfl, rfl⟩))⟩
  | 33, _ => exact ⟨rfl, Or.inr (Or.inr (Or.inr ⟨rfl, rfl, rfl⟩))⟩
  | 34, _ => exact ⟨rfl, Or.inr (Or.inr (Or.inr ⟨rfl, rfl, rfl⟩))⟩
  | 35, _ => exact ⟨rfl, Or.inr (Or.inr (Or.inr ⟨rfl, rfl, rfl⟩))⟩
  | 36, _ => exact ⟨rfl, Or.inr (Or.inr (Or.inr ⟨rfl, rfl, rfl⟩))⟩
  | 37, _ => exact ⟨rfl, Or.inl ⟨rfl, rfl⟩⟩
  | 38, _ => exact ⟨rfl, Or.inl ⟨rfl, rfl⟩⟩
  | 39, _ => exact ⟨rfl, Or.inl ⟨rfl, rfl⟩⟩
  | 40, _ => exact ⟨rfl, Or.inl ⟨rfl, rfl⟩⟩
  | 41, _ => exact ⟨rfl, Or.inr (Or.inr (Or.inr ⟨rfl, rfl, rfl⟩))⟩
  | 42, _ => exact ⟨rfl, Or.inr (Or.inr (Or.inr ⟨rfl, rfl, rfl⟩))⟩
  | 43, _ => exact ⟨rfl, Or.inr (Or.inr (Or.inr ⟨rfl, rfl, rfl⟩))⟩
  | 44, _ => exact ⟨rfl, Or.inl ⟨rfl, rfl⟩⟩
  | 45, _ => exact ⟨rfl, Or.inl ⟨rfl, rfl⟩⟩
  | 46, _ => exact ⟨rfl, Or.inr (Or.inr (Or.inr ⟨rfl, rfl, rfl⟩))⟩
  | 47, _ => exact ⟨rfl, Or.inr (Or.inr (Or.inr ⟨rfl, rfl, rfl⟩))⟩
  | 48, _ => exact ⟨rfl, Or.inl ⟨rfl, rfl⟩⟩
  | 49, _ => exact ⟨rfl, Or.inr (Or.inr (Or.inr ⟨rfl, rfl, rfl⟩))⟩
  | 50, _ => exact ⟨rfl, Or.inr (Or.inr (Or.inr ⟨rfl, rfl, rfl⟩))⟩
  | 51, _ => exact ⟨rfl, Or.inl ⟨rfl, rfl⟩⟩
  | 52, _ => exact ⟨rfl, Or.inl ⟨rfl, rfl⟩⟩
  | 53, _ => exact ⟨rfl, Or.inr (Or.inr (Or.inr ⟨rfl, rfl, rfl⟩))⟩
  | 54, _ => exact ⟨rfl, Or.inr (Or.inr (Or.inr ⟨rfl, rfl, rfl⟩))⟩
  | 55, _ => exact ⟨rfl, Or.inr (Or.inr (Or.inr ⟨rfl, rfl, rfl⟩))⟩
  | 56, _ => exact ⟨rfl, Or.inl ⟨rfl, rfl⟩⟩
  | 57, _ => exact ⟨rfl, Or.inl ⟨rfl, rfl⟩⟩
  | 58, _ => exact ⟨rfl, Or.inl ⟨rfl, rfl⟩⟩
  | 59, _ => exact ⟨rfl, Or.inl ⟨rfl, rfl⟩⟩
  | 60, _ => exact ⟨rfl, Or.inr (Or.inr (Or.inr ⟨rfl, rfl, rfl⟩))⟩
  | 61, _ => exact ⟨rfl, Or.inr (Or.inr (Or.inr ⟨rfl, rfl, rfl⟩))⟩
  | 62, _ => exact ⟨rfl, Or.inr (Or.inr (Or.inr ⟨rfl, rfl, rfl⟩))⟩
  | j + 63, h => omega
theorem sn_cls_11 : sn_ck 11 RX12 TX12 63 tyX12 := ⟨rfl, sn_uw_11, tyX12_ok, nmX12, sn_tk_11, sn_GT_of (i := 1235) (by decide +kernel) rfl, sn_GT_of (i := 119) (by decide +kernel) rfl, rfl, rfl⟩
theorem sn_cls {ci : Nat} (h : ci < 12) : ∃ C T N ty0, sn_ck ci C T N ty0 := by
  match ci, h with
  | 0, _ => exact ⟨_, _, _, _, sn_cls_0⟩
  | 1, _ => exact ⟨_, _, _, _, sn_cls_1⟩
  | 2, _ => exact ⟨_, _, _, _, sn_cls_2⟩
  | 3, _ => exact ⟨_, _, _, _, sn_cls_3⟩
  | 4, _ => exact ⟨_, _, _, _, sn_cls_4⟩
  | 5, _ => exact ⟨_, _, _, _, sn_cls_5⟩
  | 6, _ => exact ⟨_, _, _, _, sn_cls_6⟩
  | 7, _ => exact ⟨_, _, _, _, sn_cls_7⟩
  | 8, _ => exact ⟨_, _, _, _, sn_cls_8⟩
  | 9, _ => exact ⟨_, _, _, _, sn_cls_9⟩
  | 10, _ => exact ⟨_, _, _, _, sn_cls_10⟩
  | 11, _ => exact ⟨_, _, _, _, sn_cls_11⟩
  | k + 12, h => omega
set_option maxRecDepth 100000 in
theorem sn_fl_ok : ∀ q ∈ sn_fl, sn_fk q := List.forall_mem_cons.mpr ⟨sn_fl_0, List.forall_mem_cons.mpr ⟨sn_fl_1, List.forall_mem_cons.mpr ⟨sn_fl_2, List.forall_mem_cons.mpr ⟨sn_fl_3, List.forall_mem_cons.mpr ⟨sn_fl_4, List.forall_mem_cons.mpr ⟨sn_fl_5, List.forall_mem_cons.mpr ⟨sn_fl_6, List.forall_mem_cons.mpr ⟨sn_fl_7, List.forall_mem_cons.mpr ⟨sn_fl_8, List.forall_mem_cons.mpr ⟨sn_fl_9, List.forall_mem_cons.mpr ⟨sn_fl_10, List.forall_mem_cons.mpr ⟨sn_fl_11, List.forall_mem_cons.mpr ⟨sn_fl_12, List.forall_mem_cons.mpr ⟨sn_fl_13, List.forall_mem_cons.mpr ⟨sn_fl_14, List.forall_mem_cons.mpr ⟨sn_fl_15, List.forall_mem_cons.mpr ⟨sn_fl_16, List.forall_mem_cons.mpr ⟨sn_fl_17, List.forall_mem_cons.mpr ⟨sn_fl_18, List.forall_mem_cons.mpr ⟨sn_fl_19, List.forall_mem_cons.mpr ⟨sn_fl_20, List.forall_mem_cons.mpr ⟨sn_fl_21, List.forall_mem_cons.mpr ⟨sn_fl_22, List.forall_mem_cons.mpr ⟨sn_fl_23, List.forall_mem_cons.mpr ⟨sn_fl_24, List.forall_mem_cons.mpr ⟨sn_fl_25, List.forall_mem_cons.mpr ⟨sn_fl_26, List.forall_mem_cons.mpr ⟨sn_fl_27, List.forall_mem_cons.mpr ⟨sn_fl_28, List.forall_mem_cons.mpr ⟨sn_fl_29, List.forall_mem_cons.mpr ⟨sn_fl_30, List.forall_mem_cons.mpr ⟨sn_fl_31, List.forall_mem_cons.mpr ⟨sn_fl_32, List.forall_mem_cons.mpr ⟨sn_fl_33, List.forall_mem_cons.mpr ⟨sn_fl_34, List.forall_mem_cons.mpr ⟨sn_fl_35, List.forall_mem_cons.mpr ⟨sn_fl_36, List.forall_mem_cons.mpr ⟨sn_fl_37, List.forall_mem_cons.mpr ⟨sn_fl_38, List.forall_mem_cons.mpr ⟨sn_fl_39, List.forall_mem_cons.mpr ⟨sn_fl_40, List.forall_mem_cons.mpr ⟨sn_fl_41, List.forall_mem_cons.mpr ⟨sn_fl_42, List.forall_mem_cons.mpr ⟨sn_fl_43, List.forall_mem_cons.mpr ⟨sn_fl_44, List.forall_mem_cons.mpr ⟨sn_fl_45, List.forall_mem_cons.mpr ⟨sn_fl_46, List.forall_mem_cons.mpr ⟨sn_fl_47, List.forall_mem_cons.mpr ⟨sn_fl_48, List.forall_mem_cons.mpr ⟨sn_fl_49, List.forall_mem_cons.mpr ⟨sn_fl_50, List.forall_mem_cons.mpr ⟨sn_fl_51, List.forall_mem_cons.mpr ⟨sn_fl_52, List.forall_mem_cons.mpr ⟨sn_fl_53, List.forall_mem_cons.mpr ⟨sn_fl_54, List.forall_mem_cons.mpr ⟨sn_fl_55, List.forall_mem_cons.mpr ⟨sn_fl_56, List.forall_mem_cons.mpr ⟨sn_fl_57, List.forall_mem_cons.mpr ⟨sn_fl_58, List.forall_mem_cons.mpr ⟨sn_fl_59, List.forall_mem_cons.mpr ⟨sn_fl_60, List.forall_mem_cons.mpr ⟨sn_fl_61, List.forall_mem_cons.mpr ⟨sn_fl_62, List.forall_mem_cons.mpr ⟨sn_fl_63, List.forall_mem_cons.mpr ⟨sn_fl_64, List.forall_mem_cons.mpr ⟨sn_fl_65, List.forall_mem_cons.mpr ⟨sn_fl_66, List.forall_mem_cons.mpr ⟨sn_fl_67, List.forall_mem_cons.mpr ⟨sn_fl_68, List.forall_mem_cons.mpr ⟨sn_fl_69, List.forall_mem_cons.mpr ⟨sn_fl_70, List.forall_mem_cons.mpr ⟨sn_fl_71, List.forall_mem_cons.mpr ⟨sn_fl_72, List.forall_mem_cons.mpr ⟨sn_fl_73, List.forall_mem_cons.mpr ⟨sn_fl_74, List.forall_mem_cons.mpr ⟨sn_fl_75, List.forall_mem_cons.mpr ⟨sn_fl_76, List.forall_mem_cons.mpr ⟨sn_fl_77, List.forall_mem_cons.mpr ⟨sn_fl_78, List.forall_mem_cons.mpr ⟨sn_fl_79, List.forall_mem_cons.mpr ⟨sn_fl_80, List.forall_mem_cons.mpr ⟨sn_fl_81, List.forall_mem_cons.mpr ⟨sn_fl_82, List.forall_mem_cons.mpr ⟨sn_fl_83, List.forall_mem_cons.mpr ⟨sn_fl_84, List.forall_mem_cons.mpr ⟨sn_fl_85, List.forall_mem_cons.mpr ⟨sn_fl_86, List.forall_mem_cons.mpr ⟨sn_fl_87, List.forall_mem_cons.mpr ⟨sn_fl_88, List.forall_mem_cons.mpr ⟨sn_fl_89, List.forall_mem_cons.mpr ⟨sn_fl_90, List.forall_mem_cons.mpr ⟨sn_fl_91, List.forall_mem_cons.mpr ⟨sn_fl_92, List.forall_mem_cons.mpr ⟨sn_fl_93, List.forall_mem_cons.mpr ⟨sn_fl_94, List.forall_mem_cons.mpr ⟨sn_fl_95, List.forall_mem_cons.mpr ⟨sn_fl_96, List.forall_mem_cons.mpr ⟨sn_fl_97, List.forall_mem_cons.mpr ⟨sn_fl_98, List.forall_mem_cons.mpr ⟨sn_fl_99, List.forall_mem_cons.mpr ⟨sn_fl_100, List.forall_mem_cons.mpr ⟨sn_fl_101, List.forall_mem_cons.mpr ⟨sn_fl_102, List.forall_mem_cons.mpr ⟨sn_fl_103, List.forall_mem_cons.mpr ⟨sn_fl_104, List.forall_mem_cons.mpr ⟨sn_fl_105, List.forall_mem_cons.mpr ⟨sn_fl_106, List.forall_mem_cons.mpr ⟨sn_fl_107, List.forall_mem_cons.mpr ⟨sn_fl_108, List.forall_mem_cons.mpr ⟨sn_fl_109, List.forall_mem_cons.mpr ⟨sn_fl_110, List.forall_mem_cons.mpr ⟨sn_fl_111, List.forall_mem_cons.mpr ⟨sn_fl_112, List.forall_mem_cons.mpr ⟨sn_fl_113, List.forall_mem_cons.mpr ⟨sn_fl_114, List.forall_mem_cons.mpr ⟨sn_fl_115, List.forall_mem_cons.mpr ⟨sn_fl_116, List.forall_mem_cons.mpr ⟨sn_fl_117, List.forall_mem_cons.mpr ⟨sn_fl_118, List.forall_mem_cons.mpr ⟨sn_fl_119, List.forall_mem_cons.mpr ⟨sn_fl_120, List.forall_mem_cons.mpr ⟨sn_fl_121, List.forall_mem_cons.mpr ⟨sn_fl_122, List.forall_mem_cons.mpr ⟨sn_fl_123, List.forall_mem_cons.mpr ⟨sn_fl_124, List.forall_mem_cons.mpr ⟨sn_fl_125, List.forall_mem_cons.mpr ⟨sn_fl_126, List.forall_mem_cons.mpr ⟨sn_fl_127, List.forall_mem_cons.mpr ⟨sn_fl_128, List.forall_mem_cons.mpr ⟨sn_fl_129, List.forall_mem_cons.mpr ⟨sn_fl_130, List.forall_mem_cons.mpr ⟨sn_fl_131, List.forall_mem_cons.mpr ⟨sn_fl_132, List.forall_mem_cons.mpr ⟨sn_fl_133, List.forall_mem_cons.mpr ⟨sn_fl_134, List.forall_mem_cons.mpr ⟨sn_fl_135, List.forall_mem_cons.mpr ⟨sn_fl_136, List.forall_mem_cons.mpr ⟨sn_fl_137, List.forall_mem_cons.mpr ⟨sn_fl_138, List.forall_mem_cons.mpr ⟨sn_fl_139, List.forall_mem_cons.mpr ⟨sn_fl_140, List.forall_mem_cons.mpr ⟨sn_fl_141, List.forall_mem_cons.mpr ⟨sn_fl_142, List.forall_mem_cons.mpr ⟨sn_fl_143, List.forall_mem_cons.mpr ⟨sn_fl_144, List.forall_mem_cons.mpr ⟨sn_fl_145, List.forall_mem_cons.mpr ⟨sn_fl_146, List.forall_mem_cons.mpr ⟨sn_fl_147, List.forall_mem_cons.mpr ⟨sn_fl_148, List.forall_mem_cons.mpr ⟨sn_fl_149, List.forall_mem_cons.mpr ⟨sn_fl_150, List.forall_mem_cons.mpr ⟨sn_fl_151, List.forall_mem_cons.mpr ⟨sn_fl_152, List.forall_mem_cons.mpr ⟨sn_fl_153, List.forall_mem_cons.mpr ⟨sn_fl_154, List.forall_mem_cons.mpr ⟨sn_fl_155, List.forall_mem_cons.mpr ⟨sn_fl_156, List.forall_mem_cons.mpr ⟨sn_fl_157, List.forall_mem_cons.mpr ⟨sn_fl_158, List.forall_mem_cons.mpr ⟨sn_fl_159, List.forall_mem_cons.mpr ⟨sn_fl_160, List.forall_mem_cons.mpr ⟨sn_fl_161, List.forall_mem_cons.mpr ⟨sn_fl_162, List.forall_mem_cons.mpr ⟨sn_fl_163, List.forall_mem_cons.mpr ⟨sn_fl_164, List.forall_mem_cons.mpr ⟨sn_fl_165, List.forall_mem_cons.mpr ⟨sn_fl_166, List.forall_mem_cons.mpr ⟨sn_fl_167, List.forall_mem_cons.mpr ⟨sn_fl_168, List.forall_mem_cons.mpr ⟨sn_fl_169, List.forall_mem_cons.mpr ⟨sn_fl_170, List.forall_mem_cons.mpr ⟨sn_fl_171, List.forall_mem_cons.mpr ⟨sn_fl_172, List.forall_mem_cons.mpr ⟨sn_fl_173, List.forall_mem_cons.mpr ⟨sn_fl_174, List.forall_mem_cons.mpr ⟨sn_fl_175, List.forall_mem_cons.mpr ⟨sn_fl_176, List.forall_mem_cons.mpr ⟨sn_fl_177, List.forall_mem_cons.mpr ⟨sn_fl_178, List.forall_mem_cons.mpr ⟨sn_fl_179, List.forall_mem_cons.mpr ⟨sn_fl_180, List.forall_mem_cons.mpr ⟨sn_fl_181, List.forall_mem_cons.mpr ⟨sn_fl_182, List.forall_mem_cons.mpr ⟨sn_fl_183, List.forall_mem_cons.mpr ⟨sn_fl_184, List.forall_mem_cons.mpr ⟨sn_fl_185, List.forall_mem_cons.mpr ⟨sn_fl_186, List.forall_mem_cons.mpr ⟨sn_fl_187, List.forall_mem_cons.mpr ⟨sn_fl_188, List.forall_mem_cons.mpr ⟨sn_fl_189, List.forall_mem_cons.mpr ⟨sn_fl_190, List.forall_mem_cons.mpr ⟨sn_fl_191, List.forall_mem_cons.mpr ⟨sn_fl_192, List.forall_mem_cons.mpr ⟨sn_fl_193, List.forall_mem_cons.mpr ⟨sn_fl_194, List.forall_mem_cons.mpr ⟨sn_fl_195, List.forall_mem_cons.mpr ⟨sn_fl_196, List.forall_mem_cons.mpr ⟨sn_fl_197, List.forall_mem_cons.mpr ⟨sn_fl_198, List.forall_mem_cons.mpr ⟨sn_fl_199, List.forall_mem_cons.mpr ⟨sn_fl_200, List.forall_mem_cons.mpr ⟨sn_fl_201, List.forall_mem_cons.mpr ⟨sn_fl_202, List.forall_mem_cons.mpr ⟨sn_fl_203, List.forall_mem_cons.mpr ⟨sn_fl_204, List.forall_mem_cons.mpr ⟨sn_fl_205, List.forall_mem_cons.mpr ⟨sn_fl_206, List.forall_mem_cons.mpr ⟨sn_fl_207, List.forall_mem_cons.mpr ⟨sn_fl_208, List.forall_mem_cons.mpr ⟨sn_fl_209, List.forall_mem_cons.mpr ⟨sn_fl_210, List.forall_mem_cons.mpr ⟨sn_fl_211, List.forall_mem_cons.mpr ⟨sn_fl_212, List.forall_mem_cons.mpr ⟨sn_fl_213, List.forall_mem_cons.mpr ⟨sn_fl_214, List.forall_mem_cons.mpr ⟨sn_fl_215, List.forall_mem_cons.mpr ⟨sn_fl_216, List.forall_mem_cons.mpr ⟨sn_fl_217, List.forall_mem_cons.mpr ⟨sn_fl_218, List.forall_mem_cons.mpr ⟨sn_fl_219, List.forall_mem_cons.mpr ⟨sn_fl_220, fun _ h => absurd h List.not_mem_nil⟩⟩⟩⟩⟩⟩⟩⟩⟩⟩⟩⟩⟩⟩⟩⟩⟩⟩⟩⟩⟩⟩⟩⟩⟩⟩⟩⟩⟩⟩⟩⟩⟩⟩⟩⟩⟩⟩⟩⟩⟩⟩⟩⟩⟩⟩⟩⟩⟩⟩⟩⟩⟩⟩⟩⟩⟩⟩⟩⟩⟩⟩⟩⟩⟩⟩⟩⟩⟩⟩⟩⟩⟩⟩⟩⟩⟩⟩⟩⟩⟩⟩⟩⟩⟩⟩⟩⟩⟩⟩⟩⟩⟩⟩⟩⟩⟩⟩⟩⟩⟩⟩⟩⟩⟩⟩⟩⟩⟩⟩⟩⟩⟩⟩⟩⟩⟩⟩⟩⟩⟩⟩⟩⟩⟩⟩⟩⟩⟩⟩⟩⟩⟩⟩⟩⟩⟩⟩⟩⟩⟩⟩⟩⟩⟩⟩⟩⟩⟩⟩⟩⟩⟩⟩⟩⟩⟩⟩⟩⟩⟩⟩⟩⟩⟩⟩⟩⟩⟩⟩⟩⟩⟩⟩⟩⟩⟩⟩⟩⟩⟩⟩⟩⟩⟩⟩⟩⟩⟩⟩⟩⟩⟩⟩⟩⟩⟩⟩⟩⟩⟩⟩⟩⟩⟩⟩⟩⟩⟩⟩⟩⟩⟩⟩⟩⟩⟩⟩⟩⟩⟩
set_option maxRecDepth 100000 in
theorem sn_mok_all : ∀ q ∈ sn_mol, sn_mok q.1 q.2 := List.forall_mem_cons.mpr ⟨sn_mok_1, List.forall_mem_cons.mpr ⟨sn_mok_2, List.forall_mem_cons.mpr ⟨sn_mok_3, List.forall_mem_cons.mpr ⟨sn_mok_4, List.forall_mem_cons.mpr ⟨sn_mok_5, List.forall_mem_cons.mpr ⟨sn_mok_6, List.forall_mem_cons.mpr ⟨sn_mok_7, List.forall_mem_cons.mpr ⟨sn_mok_8, List.forall_mem_cons.mpr ⟨sn_mok_9, List.forall_mem_cons.mpr ⟨sn_mok_10, List.forall_mem_cons.mpr ⟨sn_mok_11, List.forall_mem_cons.mpr ⟨sn_mok_12, List.forall_mem_cons.mpr ⟨sn_mok_13, List.forall_mem_cons.mpr ⟨sn_mok_14, List.forall_mem_cons.mpr ⟨sn_mok_15, List.forall_mem_cons.mpr ⟨sn_mok_16, List.forall_mem_cons.mpr ⟨sn_mok_17, List.forall_mem_cons.mpr ⟨sn_mok_18, List.forall_mem_cons.mpr ⟨sn_mok_19, List.forall_mem_cons.mpr ⟨sn_mok_20, List.forall_mem_cons.mpr ⟨sn_mok_21, List.forall_mem_cons.mpr ⟨sn_mok_22, List.forall_mem_cons.mpr ⟨sn_mok_23, List.forall_mem_cons.mpr ⟨sn_mok_24, List.forall_mem_cons.mpr ⟨sn_mok_25, List.forall_mem_cons.mpr ⟨sn_mok_26, List.forall_mem_cons.mpr ⟨sn_mok_27, List.forall_mem_cons.mpr ⟨sn_mok_28, List.forall_mem_cons.mpr ⟨sn_mok_29, List.forall_mem_cons.mpr ⟨sn_mok_30, List.forall_mem_cons.mpr ⟨sn_mok_31, List.forall_mem_cons.mpr ⟨sn_mok_32, List.forall_mem_cons.mpr ⟨sn_mok_33, List.forall_mem_cons.mpr ⟨sn_mok_34, List.forall_mem_cons.mpr ⟨sn_mok_35, List.forall_mem_cons.mpr ⟨sn_mok_36, List.forall_mem_cons.mpr ⟨sn_mok_37, List.forall_mem_cons.mpr ⟨sn_mok_38, List.forall_mem_cons.mpr ⟨sn_mok_39, List.forall_mem_cons.mpr ⟨sn_mok_40, List.forall_mem_cons.mpr ⟨sn_mok_41, List.forall_mem_cons.mpr ⟨sn_mok_42, List.forall_mem_cons.mpr ⟨sn_mok_43, List.forall_mem_cons.mpr ⟨sn_mok_44, List.forall_mem_cons.mpr ⟨sn_mok_45, List.forall_mem_cons.mpr ⟨sn_mok_46, List.forall_mem_cons.mpr ⟨sn_mok_47, List.forall_mem_cons.mpr ⟨sn_mok_48, List.forall_mem_cons.mpr ⟨sn_mok_49, List.forall_mem_cons.mpr ⟨sn_mok_50, List.forall_mem_cons.mpr ⟨sn_mok_51, List.forall_mem_cons.mpr ⟨sn_mok_52, List.forall_mem_cons.mpr ⟨sn_mok_53, List.forall_mem_cons.mpr ⟨sn_mok_54, List.forall_mem_cons.mpr ⟨sn_mok_55, List.forall_mem_cons.mpr ⟨sn_mok_56, List.forall_mem_cons.mpr ⟨sn_mok_57, List.forall_mem_cons.mpr ⟨sn_mok_58, List.forall_mem_cons.mpr ⟨sn_mok_59, List.forall_mem_cons.mpr ⟨sn_mok_60, List.forall_mem_cons.mpr ⟨sn_mok_61, List.forall_mem_cons.mpr ⟨sn_mok_62, List.forall_mem_cons.mpr ⟨sn_mok_63, List.forall_mem_cons.mpr ⟨sn_mok_64, List.forall_mem_cons.mpr ⟨sn_mok_65, List.forall_mem_cons.mpr ⟨sn_mok_66, List.forall_mem_cons.mpr ⟨sn_mok_67, List.forall_mem_cons.mpr ⟨sn_mok_68, List.forall_mem_cons.mpr ⟨sn_mok_69, List.forall_mem_cons.mpr ⟨sn_mok_70, List.forall_mem_cons.mpr ⟨sn_mok_71, List.forall_mem_cons.mpr ⟨sn_mok_72, List.forall_mem_cons.mpr ⟨sn_mok_73, List.forall_mem_cons.mpr ⟨sn_mok_74, List.forall_mem_cons.mpr ⟨sn_mok_75, List.forall_mem_cons.mpr ⟨sn_mok_76, List.forall_mem_cons.mpr ⟨sn_mok_77, List.forall_mem_cons.mpr ⟨sn_mok_78, List.forall_mem_cons.mpr ⟨sn_mok_79, List.forall_mem_cons.mpr ⟨sn_mok_80, List.forall_mem_cons.mpr ⟨sn_mok_81, List.forall_mem_cons.mpr ⟨sn_mok_82, List.forall_mem_cons.mpr ⟨sn_mok_83, List.forall_mem_cons.mpr ⟨sn_mok_84, List.forall_mem_cons.mpr ⟨sn_mok_85, List.forall_mem_cons.mpr ⟨sn_mok_86, List.forall_mem_cons.mpr ⟨sn_mok_87, List.forall_mem_cons.mpr ⟨sn_mok_88, List.forall_mem_cons.mpr ⟨sn_mok_89, List.forall_mem_cons.mpr ⟨sn_mok_90, List.forall_mem_cons.mpr ⟨sn_mok_91, List.forall_mem_cons.mpr ⟨sn_mok_92, List.forall_mem_cons.mpr ⟨sn_mok_93, List.forall_mem_cons.mpr ⟨sn_mok_94, List.forall_mem_cons.mpr ⟨sn_mok_95, List.forall_mem_cons.mpr ⟨sn_mok_96, List.forall_mem_cons.mpr ⟨sn_mok_97, List.forall_mem_cons.mpr ⟨sn_mok_98, List.forall_mem_cons.mpr ⟨sn_mok_99, List.forall_mem_cons.mpr ⟨sn_mok_100, List.forall_mem_cons.mpr ⟨sn_mok_101, List.forall_mem_cons.mpr ⟨sn_mok_102, List.forall_mem_cons.mpr ⟨sn_mok_103, List.forall_mem_cons.mpr ⟨sn_mok_104, List.forall_mem_cons.mpr ⟨sn_mok_105, List.forall_mem_cons.mpr ⟨sn_mok_106, List.forall_mem_cons.mpr ⟨sn_mok_107, List.forall_mem_cons.mpr ⟨sn_mok_108, List.forall_mem_cons.mpr ⟨sn_mok_109, List.forall_mem_cons.mpr ⟨sn_mok_110, List.forall_mem_cons.mpr ⟨sn_mok_111, List.forall_mem_cons.mpr ⟨sn_mok_112, List.forall_mem_cons.mpr ⟨sn_mok_113, List.forall_mem_cons.mpr ⟨sn_mok_114, List.forall_mem_cons.mpr ⟨sn_mok_115, List.forall_mem_cons.mpr ⟨sn_mok_116, List.forall_mem_cons.mpr ⟨sn_mok_117, List.forall_mem_cons.mpr ⟨sn_mok_118, List.forall_mem_cons.mpr ⟨sn_mok_119, List.forall_mem_cons.mpr ⟨sn_mok_120, List.forall_mem_cons.mpr ⟨sn_mok_121, List.forall_mem_cons.mpr ⟨sn_mok_122, List.forall_mem_cons.mpr ⟨sn_mok_123, List.forall_mem_cons.mpr ⟨sn_mok_124, List.forall_mem_cons.mpr ⟨sn_mok_125, List.forall_mem_cons.mpr ⟨sn_mok_126, List.forall_mem_cons.mpr ⟨sn_mok_127, List.forall_mem_cons.mpr ⟨sn_mok_128, List.forall_mem_cons.mpr ⟨sn_mok_129, List.forall_mem_cons.mpr ⟨sn_mok_130, List.forall_mem_cons.mpr ⟨sn_mok_131, List.forall_mem_cons.mpr ⟨sn_mok_132, List.forall_mem_cons.mpr ⟨sn_mok_133, List.forall_mem_cons.mpr ⟨sn_mok_134, List.forall_mem_cons.mpr ⟨sn_mok_135, List.forall_mem_cons.mpr ⟨sn_mok_136, List.forall_mem_cons.mpr ⟨sn_mok_137, List.forall_mem_cons.mpr ⟨sn_mok_138, List.forall_mem_cons.mpr ⟨sn_mok_139, List.forall_mem_cons.mpr ⟨sn_mok_140, List.forall_mem_cons.mpr ⟨sn_mok_141, List.forall_mem_cons.mpr ⟨sn_mok_142, List.forall_mem_cons.mpr ⟨sn_mok_143, List.forall_mem_cons.mpr ⟨sn_mok_144, List.forall_mem_cons.mpr ⟨sn_mok_145, List.forall_mem_cons.mpr ⟨sn_mok_146, List.forall_mem_cons.mpr ⟨sn_mok_147, List.forall_mem_cons.mpr ⟨sn_mok_148, List.forall_mem_cons.mpr ⟨sn_mok_149, List.forall_mem_cons.mpr ⟨sn_mok_150, List.forall_mem_cons.mpr ⟨sn_mok_151, List.forall_mem_cons.mpr ⟨sn_mok_152, List.forall_mem_cons.mpr ⟨sn_mok_153, List.forall_mem_cons.mpr ⟨sn_mok_154, List.forall_mem_cons.mpr ⟨sn_mok_155, List.forall_mem_cons.mpr ⟨sn_mok_156, List.forall_mem_cons.mpr ⟨sn_mok_157, List.forall_mem_cons.mpr ⟨sn_mok_158, List.forall_mem_cons.mpr ⟨sn_mok_159, List.forall_mem_cons.mpr ⟨sn_mok_160, List.forall_mem_cons.mpr ⟨sn_mok_161, List.forall_mem_cons.mpr ⟨sn_mok_162, List.forall_mem_cons.mpr ⟨sn_mok_163, List.forall_mem_cons.mpr ⟨sn_mok_164, List.forall_mem_cons.mpr ⟨sn_mok_165, List.forall_mem_cons.mpr ⟨sn_mok_166, List.forall_mem_cons.mpr ⟨sn_mok_167, List.forall_mem_cons.mpr ⟨sn_mok_168, List.forall_mem_cons.mpr ⟨sn_mok_169, List.forall_mem_cons.mpr ⟨sn_mok_170, List.forall_mem_cons.mpr ⟨sn_mok_171, List.forall_mem_cons.mpr ⟨sn_mok_172, List.forall_mem_cons.mpr ⟨sn_mok_173, List.forall_mem_cons.mpr ⟨sn_mok_174, List.forall_mem_cons.mpr ⟨sn_mok_175, List.forall_mem_cons.mpr ⟨sn_mok_176, List.forall_mem_cons.mpr ⟨sn_mok_177, List.forall_mem_cons.mpr ⟨sn_mok_178, List.forall_mem_cons.mpr ⟨sn_mok_179, List.forall_mem_cons.mpr ⟨sn_mok_180, List.forall_mem_cons.mpr ⟨sn_mok_181, List.forall_mem_cons.mpr ⟨sn_mok_182, List.forall_mem_cons.mpr ⟨sn_mok_183, List.forall_mem_cons.mpr ⟨sn_mok_184, List.forall_mem_cons.mpr ⟨sn_mok_185, List.forall_mem_cons.mpr ⟨sn_mok_186, List.forall_mem_cons.mpr ⟨sn_mok_187, List.forall_mem_cons.mpr ⟨sn_mok_188, List.forall_mem_cons.mpr ⟨sn_mok_189, List.forall_mem_cons.mpr ⟨sn_mok_190, List.forall_mem_cons.mpr ⟨sn_mok_191, List.forall_mem_cons.mpr ⟨sn_mok_192, List.forall_mem_cons.mpr ⟨sn_mok_193, List.forall_mem_cons.mpr ⟨sn_mok_194, List.forall_mem_cons.mpr ⟨sn_mok_195, List.forall_mem_cons.mpr ⟨sn_mok_196, List.forall_mem_cons.mpr ⟨sn_mok_197, List.forall_mem_cons.mpr ⟨sn_mok_198, List.forall_mem_cons.mpr ⟨sn_mok_199, List.forall_mem_cons.mpr ⟨sn_mok_200, List.forall_mem_cons.mpr ⟨sn_mok_201, List.forall_mem_cons.mpr ⟨sn_mok_202, List.forall_mem_cons.mpr ⟨sn_mok_203, List.forall_mem_cons.mpr ⟨sn_mok_204, List.forall_mem_cons.mpr ⟨sn_mok_205, List.forall_mem_cons.mpr ⟨sn_mok_206, List.forall_mem_cons.mpr ⟨sn_mok_207, List.forall_mem_cons.mpr ⟨sn_mok_208, List.forall_mem_cons.mpr ⟨sn_mok_209, List.forall_mem_cons.mpr ⟨sn_mok_210, List.forall_mem_cons.mpr ⟨sn_mok_211, List.forall_mem_cons.mpr ⟨sn_mok_212, List.forall_mem_cons.mpr ⟨sn_mok_213, List.forall_mem_cons.mpr ⟨sn_mok_214, List.forall_mem_cons.mpr ⟨sn_mok_215, List.forall_mem_cons.mpr ⟨sn_mok_216, List.forall_mem_cons.mpr ⟨sn_mok_217, List.forall_mem_cons.mpr ⟨sn_mok_218, List.forall_mem_cons.mpr ⟨sn_mok_219, List.forall_mem_cons.mpr ⟨sn_mok_220, List.forall_mem_cons.mpr ⟨sn_mok_221, List.forall_mem_cons.mpr ⟨sn_mok_222, List.forall_mem_cons.mpr ⟨sn_mok_223, List.forall_mem_cons.mpr ⟨sn_mok_224, List.forall_mem_cons.mpr ⟨sn_mok_225, List.forall_mem_cons.mpr ⟨sn_mok_226, List.forall_mem_cons.mpr ⟨sn_mok_227, List.forall_mem_cons.mpr ⟨sn_mok_228, List.forall_mem_cons.mpr ⟨sn_mok_229, List.forall_mem_cons.mpr ⟨sn_mok_230, List.forall_mem_cons.mpr ⟨sn_mok_231, List.forall_mem_cons.mpr ⟨sn_mok_232, List.forall_mem_cons.mpr ⟨sn_mok_233, List.forall_mem_cons.mpr ⟨sn_mok_234, List.forall_mem_cons.mpr ⟨sn_mok_235, List.forall_mem_cons.mpr ⟨sn_mok_236, List.forall_mem_cons.mpr ⟨sn_mok_237, List.forall_mem_cons.mpr ⟨sn_mok_238, List.forall_mem_cons.mpr ⟨sn_mok_239, List.forall_mem_cons.mpr ⟨sn_mok_240, List.forall_mem_cons.mpr ⟨sn_mok_241, List.forall_mem_cons.mpr ⟨sn_mok_242, List.forall_mem_cons.mpr ⟨sn_mok_243, List.forall_mem_cons.mpr ⟨sn_mok_244, List.forall_mem_cons.mpr ⟨sn_mok_245, List.forall_mem_cons.mpr ⟨sn_mok_246, List.forall_mem_cons.mpr ⟨sn_mok_247, List.forall_mem_cons.mpr ⟨sn_mok_248, List.forall_mem_cons.mpr ⟨sn_mok_249, List.forall_mem_cons.mpr ⟨sn_mok_250, List.forall_mem_cons.mpr ⟨sn_mok_251, List.forall_mem_cons.mpr ⟨sn_mok_252, List.forall_mem_cons.mpr ⟨sn_mok_253, List.forall_mem_cons.mpr ⟨sn_mok_254, List.forall_mem_cons.mpr ⟨sn_mok_255, List.forall_mem_cons.mpr ⟨sn_mok_256, List.forall_mem_cons.mpr ⟨sn_mok_257, List.forall_mem_cons.mpr ⟨sn_mok_258, List.forall_mem_cons.mpr ⟨sn_mok_259, List.forall_mem_cons.mpr ⟨sn_mok_260, List.forall_mem_cons.mpr ⟨sn_mok_261, List.forall_mem_cons.mpr ⟨sn_mok_262, List.forall_mem_cons.mpr ⟨sn_mok_263, List.forall_mem_cons.mpr ⟨sn_mok_264, List.forall_mem_cons.mpr ⟨sn_mok_265, List.forall_mem_cons.mpr ⟨sn_mok_266, List.forall_mem_cons.mpr ⟨sn_mok_267, List.forall_mem_cons.mpr ⟨sn_mok_268, List.forall_mem_cons.mpr ⟨sn_mok_269, List.forall_mem_cons.mpr ⟨sn_mok_270, List.forall_mem_cons.mpr ⟨sn_mok_271, List.forall_mem_cons.mpr ⟨sn_mok_272, List.forall_mem_cons.mpr ⟨sn_mok_273, List.forall_mem_cons.mpr ⟨sn_mok_274, List.forall_mem_cons.mpr ⟨sn_mok_275, List.forall_mem_cons.mpr ⟨sn_mok_276, List.forall_mem_cons.mpr ⟨sn_mok_277, List.forall_mem_cons.mpr ⟨sn_mok_278, List.forall_mem_cons.mpr ⟨sn_mok_279, List.forall_mem_cons.mpr ⟨sn_mok_280, List.forall_mem_cons.mpr ⟨sn_mok_281, List.forall_mem_cons.mpr ⟨sn_mok_282, List.forall_mem_cons.mpr ⟨sn_mok_283, fun _ h => absurd h List.not_mem_nil⟩⟩⟩⟩⟩⟩⟩⟩⟩⟩⟩⟩⟩⟩⟩⟩⟩⟩⟩⟩⟩⟩⟩⟩⟩⟩⟩⟩⟩⟩⟩⟩⟩⟩⟩⟩⟩⟩⟩⟩⟩⟩⟩⟩⟩⟩⟩⟩⟩⟩⟩⟩⟩⟩⟩⟩⟩⟩⟩⟩⟩⟩⟩⟩⟩⟩⟩⟩⟩⟩⟩⟩⟩⟩⟩⟩⟩⟩⟩⟩⟩⟩⟩⟩⟩⟩⟩⟩⟩⟩⟩⟩⟩⟩⟩⟩⟩⟩⟩⟩⟩⟩⟩⟩⟩⟩⟩⟩⟩⟩⟩⟩⟩⟩⟩⟩⟩⟩⟩⟩⟩⟩⟩⟩⟩⟩⟩⟩⟩⟩⟩⟩⟩⟩⟩⟩⟩⟩⟩⟩⟩⟩⟩⟩⟩⟩⟩⟩⟩⟩⟩⟩⟩⟩⟩⟩⟩⟩⟩⟩⟩⟩⟩⟩⟩⟩⟩⟩⟩⟩⟩⟩⟩⟩⟩⟩⟩⟩⟩⟩⟩⟩⟩⟩⟩⟩⟩⟩⟩⟩⟩⟩⟩⟩⟩⟩⟩⟩⟩⟩⟩⟩⟩⟩⟩⟩⟩⟩⟩⟩⟩⟩⟩⟩⟩⟩⟩⟩⟩⟩⟩⟩⟩⟩⟩⟩⟩⟩⟩⟩⟩⟩⟩⟩⟩⟩⟩⟩⟩⟩⟩⟩⟩⟩⟩⟩⟩⟩⟩⟩⟩⟩⟩⟩⟩⟩⟩⟩⟩⟩⟩⟩⟩⟩⟩⟩⟩⟩⟩⟩⟩⟩⟩⟩⟩⟩⟩⟩⟩⟩⟩⟩⟩
theorem sn_mol_ok {a b : Nat} (h : sn_mol.contains (a, b) = true) : sn_mok a b := sn_mok_all (a, b) (List.contains_iff_mem.mp h)
set_option maxRecDepth 100000 in
theorem sn_ls_ok : ∀ q ∈ sn_ls, sn_lsk q := List.forall_mem_cons.mpr ⟨sn_ls_0, List.forall_mem_cons.mpr ⟨sn_ls_1, List.forall_mem_cons.mpr ⟨sn_ls_2, List.forall_mem_cons.mpr ⟨sn_ls_3, List.forall_mem_cons.mpr ⟨sn_ls_4, List.forall_mem_cons.mpr ⟨sn_ls_5, List.forall_mem_cons.mpr ⟨sn_ls_6, List.forall_mem_cons.mpr ⟨sn_ls_7, List.forall_mem_cons.mpr ⟨sn_ls_8, List.forall_mem_cons.mpr ⟨sn_ls_9, List.forall_mem_cons.mpr ⟨sn_ls_10, List.forall_mem_cons.mpr ⟨sn_ls_11, List.forall_mem_cons.mpr ⟨sn_ls_12, List.forall_mem_cons.mpr ⟨sn_ls_13, List.forall_mem_cons.mpr ⟨sn_ls_14, List.forall_mem_cons.mpr ⟨sn_ls_15, List.forall_mem_cons.mpr ⟨sn_ls_16, List.forall_mem_cons.mpr ⟨sn_ls_17, List.forall_mem_cons.mpr ⟨sn_ls_18, List.forall_mem_cons.mpr ⟨sn_ls_19, List.forall_mem_cons.mpr ⟨sn_ls_20, List.forall_mem_cons.mpr ⟨sn_ls_21, List.forall_mem_cons.mpr ⟨sn_ls_22, List.forall_mem_cons.mpr ⟨sn_ls_23, List.forall_mem_cons.mpr ⟨sn_ls_24, List.forall_mem_cons.mpr ⟨sn_ls_25, List.forall_mem_cons.mpr ⟨sn_ls_26, List.forall_mem_cons.mpr ⟨sn_ls_27, List.forall_mem_cons.mpr ⟨sn_ls_28, List.forall_mem_cons.mpr ⟨sn_ls_29, List.forall_mem_cons.mpr ⟨sn_ls_30, List.forall_mem_cons.mpr ⟨sn_ls_31, List.forall_mem_cons.mpr ⟨sn_ls_32, List.forall_mem_cons.mpr ⟨sn_ls_33, List.forall_mem_cons.mpr ⟨sn_ls_34, List.forall_mem_cons.mpr ⟨sn_ls_35, List.forall_mem_cons.mpr ⟨sn_ls_36, List.forall_mem_cons.mpr ⟨sn_ls_37, List.forall_mem_cons.mpr ⟨sn_ls_38, List.forall_mem_cons.mpr ⟨sn_ls_39, List.forall_mem_cons.mpr ⟨sn_ls_40, List.forall_mem_cons.mpr ⟨sn_ls_41, List.forall_mem_cons.mpr ⟨sn_ls_42, List.forall_mem_cons.mpr ⟨sn_ls_43, List.forall_mem_cons.mpr ⟨sn_ls_44, List.forall_mem_cons.mpr ⟨sn_ls_45, List.forall_mem_cons.mpr ⟨sn_ls_46, List.forall_mem_cons.mpr ⟨sn_ls_47, List.forall_mem_cons.mpr ⟨sn_ls_48, fun _ h => absurd h List.not_mem_nil⟩⟩⟩⟩⟩⟩⟩⟩⟩⟩⟩⟩⟩⟩⟩⟩⟩⟩⟩⟩⟩⟩⟩⟩⟩⟩⟩⟩⟩⟩⟩⟩⟩⟩⟩⟩⟩⟩⟩⟩⟩⟩⟩⟩⟩⟩⟩⟩⟩
set_option maxRecDepth 100000 in
theorem sn_lvt_ok : ∀ q ∈ sn_lvt, sn_lvk q := List.forall_mem_cons.mpr ⟨sn_lvt_0, List.forall_mem_cons.mpr ⟨sn_lvt_1, List.forall_mem_cons.mpr ⟨sn_lvt_2, List.forall_mem_cons.mpr ⟨sn_lvt_3, List.forall_mem_cons.mpr ⟨sn_lvt_4, List.forall_mem_cons.mpr ⟨sn_lvt_5, List.forall_mem_cons.mpr ⟨sn_lvt_6, List.forall_mem_cons.mpr ⟨sn_lvt_7, List.forall_mem_cons.mpr ⟨sn_lvt_8, List.forall_mem_cons.mpr ⟨sn_lvt_9, List.forall_mem_cons.mpr ⟨sn_lvt_10, List.forall_mem_cons.mpr ⟨sn_lvt_11, List.forall_mem_cons.mpr ⟨sn_lvt_12, List.forall_mem_cons.mpr ⟨sn_lvt_13, List.forall_mem_cons.mpr ⟨sn_lvt_14, List.forall_mem_cons.mpr ⟨sn_lvt_15, List.forall_mem_cons.mpr ⟨sn_lvt_16, List.forall_mem_cons.mpr ⟨sn_lvt_17, List.forall_mem_cons.mpr ⟨sn_lvt_18, List.forall_mem_cons.mpr ⟨sn_lvt_19, List.forall_mem_cons.mpr ⟨sn_lvt_20, List.forall_mem_cons.mpr ⟨sn_lvt_21, List.forall_mem_cons.mpr ⟨sn_lvt_22, List.forall_mem_cons.mpr ⟨sn_lvt_23, List.forall_mem_cons.mpr ⟨sn_lvt_24, List.forall_mem_cons.mpr ⟨sn_lvt_25, List.forall_mem_cons.mpr ⟨sn_lvt_26, List.forall_mem_cons.mpr ⟨sn_lvt_27, List.forall_mem_cons.mpr ⟨sn_lvt_28, List.forall_mem_cons.mpr ⟨sn_lvt_29, List.forall_mem_cons.mpr ⟨sn_lvt_30, List.forall_mem_cons.mpr ⟨sn_lvt_31, List.forall_mem_cons.mpr ⟨sn_lvt_32, List.forall_mem_cons.mpr ⟨sn_lvt_33, List.forall_mem_cons.mpr ⟨sn_lvt_34, List.forall_mem_cons.mpr ⟨sn_lvt_35, List.forall_mem_cons.mpr ⟨sn_lvt_36, List.forall_mem_cons.mpr ⟨sn_lvt_37, List.forall_mem_cons.mpr ⟨sn_lvt_38, List.forall_mem_cons.mpr ⟨sn_lvt_39, List.forall_mem_cons.mpr ⟨sn_lvt_40, List.forall_mem_cons.mpr ⟨sn_lvt_41, List.forall_mem_cons.mpr ⟨sn_lvt_42, List.forall_mem_cons.mpr ⟨sn_lvt_43, List.forall_mem_cons.mpr ⟨sn_lvt_44, List.forall_mem_cons.mpr ⟨sn_lvt_45, List.forall_mem_cons.mpr ⟨sn_lvt_46, List.forall_mem_cons.mpr ⟨sn_lvt_47, List.forall_mem_cons.mpr ⟨sn_lvt_48, List.forall_mem_cons.mpr ⟨sn_lvt_49, List.forall_mem_cons.mpr ⟨sn_lvt_50, List.forall_mem_cons.mpr ⟨sn_lvt_51, List.forall_mem_cons.mpr ⟨sn_lvt_52, List.forall_mem_cons.mpr ⟨sn_lvt_53, List.forall_mem_cons.mpr ⟨sn_lvt_54, List.forall_mem_cons.mpr ⟨sn_lvt_55, List.forall_mem_cons.mpr ⟨sn_lvt_56, List.forall_mem_cons.mpr ⟨sn_lvt_57, List.forall_mem_cons.mpr ⟨sn_lvt_58, List.forall_mem_cons.mpr ⟨sn_lvt_59, List.forall_mem_cons.mpr ⟨sn_lvt_60, List.forall_mem_cons.mpr ⟨sn_lvt_61, List.forall_mem_cons.mpr ⟨sn_lvt_62, List.forall_mem_cons.mpr ⟨sn_lvt_63, List.forall_mem_cons.mpr ⟨sn_lvt_64, List.forall_mem_cons.mpr ⟨sn_lvt_65, List.forall_mem_cons.mpr ⟨sn_lvt_66, List.forall_mem_cons.mpr ⟨sn_lvt_67, List.forall_mem_cons.mpr ⟨sn_lvt_68, List.forall_mem_cons.mpr ⟨sn_lvt_69, List.forall_mem_cons.mpr ⟨sn_lvt_70, List.forall_mem_cons.mpr ⟨sn_lvt_71, List.forall_mem_cons.mpr ⟨sn_lvt_72, List.forall_mem_cons.mpr ⟨sn_lvt_73, List.forall_mem_cons.mpr ⟨sn_lvt_74, List.forall_mem_cons.mpr ⟨sn_lvt_75, List.forall_mem_cons.mpr ⟨sn_lvt_76, List.forall_mem_cons.mpr ⟨sn_lvt_77, List.forall_mem_cons.mpr ⟨sn_lvt_78, List.forall_mem_cons.mpr ⟨sn_lvt_79, List.forall_mem_cons.mpr ⟨sn_lvt_80, List.forall_mem_cons.mpr ⟨sn_lvt_81, List.forall_mem_cons.mpr ⟨sn_lvt_82, List.forall_mem_cons.mpr ⟨sn_lvt_83, List.forall_mem_cons.mpr ⟨sn_lvt_84, List.forall_mem_cons.mpr ⟨sn_lvt_85, List.forall_mem_cons.mpr ⟨sn_lvt_86, List.forall_mem_cons.mpr ⟨sn_lvt_87, List.forall_mem_cons.mpr ⟨sn_lvt_88, List.forall_mem_cons.mpr ⟨sn_lvt_89, List.forall_mem_cons.mpr ⟨sn_lvt_90, List.forall_mem_cons.mpr ⟨sn_lvt_91, List.forall_mem_cons.mpr ⟨sn_lvt_92, List.forall_mem_cons.mpr ⟨sn_lvt_93, List.forall_mem_cons.mpr ⟨sn_lvt_94, List.forall_mem_cons.mpr ⟨sn_lvt_95, List.forall_mem_cons.mpr ⟨sn_lvt_96, List.forall_mem_cons.mpr ⟨sn_lvt_97, List.forall_mem_cons.mpr ⟨sn_lvt_98, List.forall_mem_cons.mpr ⟨sn_lvt_99, List.forall_mem_cons.mpr ⟨sn_lvt_100, List.forall_mem_cons.mpr ⟨sn_lvt_101, List.forall_mem_cons.mpr ⟨sn_lvt_102, List.forall_mem_cons.mpr ⟨sn_lvt_103, List.forall_mem_cons.mpr ⟨sn_lvt_104, List.forall_mem_cons.mpr ⟨sn_lvt_105, List.forall_mem_cons.mpr ⟨sn_lvt_106, List.forall_mem_cons.mpr ⟨sn_lvt_107, List.forall_mem_cons.mpr ⟨sn_lvt_108, List.forall_mem_cons.mpr ⟨sn_lvt_109, List.forall_mem_cons.mpr ⟨sn_lvt_110, List.forall_mem_cons.mpr ⟨sn_lvt_111, List.forall_mem_cons.mpr ⟨sn_lvt_112, List.forall_mem_cons.mpr ⟨sn_lvt_113, List.forall_mem_cons.mpr ⟨sn_lvt_114, List.forall_mem_cons.mpr ⟨sn_lvt_115, List.forall_mem_cons.mpr ⟨sn_lvt_116, List.forall_mem_cons.mpr ⟨sn_lvt_117, List.forall_mem_cons.mpr ⟨sn_lvt_118, List.forall_mem_cons.mpr ⟨sn_lvt_119, List.forall_mem_cons.mpr ⟨sn_lvt_120, List.forall_mem_cons.mpr ⟨sn_lvt_121, List.forall_mem_cons.mpr ⟨sn_lvt_122, List.forall_mem_cons.mpr ⟨sn_lvt_123, List.forall_mem_cons.mpr ⟨sn_lvt_124, List.forall_mem_cons.mpr ⟨sn_lvt_125, List.forall_mem_cons.mpr ⟨sn_lvt_126, List.forall_mem_cons.mpr ⟨sn_lvt_127, List.forall_mem_cons.mpr ⟨sn_lvt_128, List.forall_mem_cons.mpr ⟨sn_lvt_129, List.forall_mem_cons.mpr ⟨sn_lvt_130, List.forall_mem_cons.mpr ⟨sn_lvt_131, List.forall_mem_cons.mpr ⟨sn_lvt_132, List.forall_mem_cons.mpr ⟨sn_lvt_133, List.forall_mem_cons.mpr ⟨sn_lvt_134, List.forall_mem_cons.mpr ⟨sn_lvt_135, List.forall_mem_cons.mpr ⟨sn_lvt_136, List.forall_mem_cons.mpr ⟨sn_lvt_137, List.forall_mem_cons.mpr ⟨sn_lvt_138, List.forall_mem_cons.mpr ⟨sn_lvt_139, List.forall_mem_cons.mpr ⟨sn_lvt_140, List.forall_mem_cons.mpr ⟨sn_lvt_141, List.forall_mem_cons.mpr ⟨sn_lvt_142, List.forall_mem_cons.mpr ⟨sn_lvt_143, List.forall_mem_cons.mpr ⟨sn_lvt_144, List.forall_mem_cons.mpr ⟨sn_lvt_145, List.forall_mem_cons.mpr ⟨sn_lvt_146, List.forall_mem_cons.mpr ⟨sn_lvt_147, List.forall_mem_cons.mpr ⟨sn_lvt_148, List.forall_mem_cons.mpr ⟨sn_lvt_149, List.forall_mem_cons.mpr ⟨sn_lvt_150, List.forall_mem_cons.mpr ⟨sn_lvt_151, List.forall_mem_cons.mpr ⟨sn_lvt_152, List.forall_mem_cons.mpr ⟨sn_lvt_153, List.forall_mem_cons.mpr ⟨sn_lvt_154, List.forall_mem_cons.mpr ⟨sn_lvt_155, List.forall_mem_cons.mpr ⟨sn_lvt_156, List.forall_mem_cons.mpr ⟨sn_lvt_157, List.forall_mem_cons.mpr ⟨sn_lvt_158, List.forall_mem_cons.mpr ⟨sn_lvt_159, List.forall_mem_cons.mpr ⟨sn_lvt_160, List.forall_mem_cons.mpr ⟨sn_lvt_161, List.forall_mem_cons.mpr ⟨sn_lvt_162, List.forall_mem_cons.mpr ⟨sn_lvt_163, List.forall_mem_cons.mpr ⟨sn_lvt_164, List.forall_mem_cons.mpr ⟨sn_lvt_165, List.forall_mem_cons.mpr ⟨sn_lvt_166, List.forall_mem_cons.mpr ⟨sn_lvt_167, List.forall_mem_cons.mpr ⟨sn_lvt_168, List.forall_mem_cons.mpr ⟨sn_lvt_169, List.forall_mem_cons.mpr ⟨sn_lvt_170, List.forall_mem_cons.mpr ⟨sn_lvt_171, List.forall_mem_cons.mpr ⟨sn_lvt_172, List.forall_mem_cons.mpr ⟨sn_lvt_173, List.forall_mem_cons.mpr ⟨sn_lvt_174, List.forall_mem_cons.mpr ⟨sn_lvt_175, List.forall_mem_cons.mpr ⟨sn_lvt_176, List.forall_mem_cons.mpr ⟨sn_lvt_177, List.forall_mem_cons.mpr ⟨sn_lvt_178, List.forall_mem_cons.mpr ⟨sn_lvt_179, List.forall_mem_cons.mpr ⟨sn_lvt_180, List.forall_mem_cons.mpr ⟨sn_lvt_181, List.forall_mem_cons.mpr ⟨sn_lvt_182, List.forall_mem_cons.mpr ⟨sn_lvt_183, List.forall_mem_cons.mpr ⟨sn_lvt_184, List.forall_mem_cons.mpr ⟨sn_lvt_185, List.forall_mem_cons.mpr ⟨sn_lvt_186, List.forall_mem_cons.mpr ⟨sn_lvt_187, List.forall_mem_cons.mpr ⟨sn_lvt_188, List.forall_mem_cons.mpr ⟨sn_lvt_189, List.forall_mem_cons.mpr ⟨sn_lvt_190, List.forall_mem_cons.mpr ⟨sn_lvt_191, List.forall_mem_cons.mpr ⟨sn_lvt_192, List.forall_mem_cons.mpr ⟨sn_lvt_193, List.forall_mem_cons.mpr ⟨sn_lvt_194, List.forall_mem_cons.mpr ⟨sn_lvt_195, List.forall_mem_cons.mpr ⟨sn_lvt_196, List.forall_mem_cons.mpr ⟨sn_lvt_197, List.forall_mem_cons.mpr ⟨sn_lvt_198, List.forall_mem_cons.mpr ⟨sn_lvt_199, List.forall_mem_cons.mpr ⟨sn_lvt_200, List.forall_mem_cons.mpr ⟨sn_lvt_201, List.forall_mem_cons.mpr ⟨sn_lvt_202, List.forall_mem_cons.mpr ⟨sn_lvt_203, List.forall_mem_cons.mpr ⟨sn_lvt_204, List.forall_mem_cons.mpr ⟨sn_lvt_205, List.forall_mem_cons.mpr ⟨sn_lvt_206, List.forall_mem_cons.mpr ⟨sn_lvt_207, List.forall_mem_cons.mpr ⟨sn_lvt_208, List.forall_mem_cons.mpr ⟨sn_lvt_209, List.forall_mem_cons.mpr ⟨sn_lvt_210, List.forall_mem_cons.mpr ⟨sn_lvt_211, List.forall_mem_cons.mpr ⟨sn_lvt_212, List.forall_mem_cons.mpr ⟨sn_lvt_213, List.forall_mem_cons.mpr ⟨sn_lvt_214, List.forall_mem_cons.mpr ⟨sn_lvt_215, List.forall_mem_cons.mpr ⟨sn_lvt_216, List.forall_mem_cons.mpr ⟨sn_lvt_217, List.forall_mem_cons.mpr ⟨sn_lvt_218, List.forall_mem_cons.mpr ⟨sn_lvt_219, List.forall_mem_cons.mpr ⟨sn_lvt_220, List.forall_mem_cons.mpr ⟨sn_lvt_221, List.forall_mem_cons.mpr ⟨sn_lvt_222, List.forall_mem_cons.mpr ⟨sn_lvt_223, List.forall_mem_cons.mpr ⟨sn_lvt_224, List.forall_mem_cons.mpr ⟨sn_lvt_225, List.forall_mem_cons.mpr ⟨sn_lvt_226, List.forall_mem_cons.mpr ⟨sn_lvt_227, List.forall_mem_cons.mpr ⟨sn_lvt_228, List.forall_mem_cons.mpr ⟨sn_lvt_229, List.forall_mem_cons.mpr ⟨sn_lvt_230, List.forall_mem_cons.mpr ⟨sn_lvt_231, List.forall_mem_cons.mpr ⟨sn_lvt_232, List.forall_mem_cons.mpr ⟨sn_lvt_233, List.forall_mem_cons.mpr ⟨sn_lvt_234, List.forall_mem_cons.mpr ⟨sn_lvt_235, List.forall_mem_cons.mpr ⟨sn_lvt_236, List.forall_mem_cons.mpr ⟨sn_lvt_237, List.forall_mem_cons.mpr ⟨sn_lvt_238, List.forall_mem_cons.mpr ⟨sn_lvt_239, List.forall_mem_cons.mpr ⟨sn_lvt_240, List.forall_mem_cons.mpr ⟨sn_lvt_241, List.forall_mem_cons.mpr ⟨sn_lvt_242, List.forall_mem_cons.mpr ⟨sn_lvt_243, List.forall_mem_cons.mpr ⟨sn_lvt_244, List.forall_mem_cons.mpr ⟨sn_lvt_245, List.forall_mem_cons.mpr ⟨sn_lvt_246, fun _ h => absurd h List.not_mem_nil⟩⟩⟩⟩⟩⟩⟩⟩⟩⟩⟩⟩⟩⟩⟩⟩⟩⟩⟩⟩⟩⟩⟩⟩⟩⟩⟩⟩⟩⟩⟩⟩⟩⟩⟩⟩⟩⟩⟩⟩⟩⟩⟩⟩⟩⟩⟩⟩⟩⟩⟩⟩⟩⟩⟩⟩⟩⟩⟩⟩⟩⟩⟩⟩⟩⟩⟩⟩⟩⟩⟩⟩⟩⟩⟩⟩⟩⟩⟩⟩⟩⟩⟩⟩⟩⟩⟩⟩⟩⟩⟩⟩⟩⟩⟩⟩⟩⟩⟩⟩⟩⟩⟩⟩⟩⟩⟩⟩⟩⟩⟩⟩⟩⟩⟩⟩⟩⟩⟩⟩⟩⟩⟩⟩⟩⟩⟩⟩⟩⟩⟩⟩⟩⟩⟩⟩⟩⟩⟩⟩⟩⟩⟩⟩⟩⟩⟩⟩⟩⟩⟩⟩⟩⟩⟩⟩⟩⟩⟩⟩⟩⟩⟩⟩⟩⟩⟩⟩⟩⟩⟩⟩⟩⟩⟩⟩⟩⟩⟩⟩⟩⟩⟩⟩⟩⟩⟩⟩⟩⟩⟩⟩⟩⟩⟩⟩⟩⟩⟩⟩⟩⟩⟩⟩⟩⟩⟩⟩⟩⟩⟩⟩⟩⟩⟩⟩⟩⟩⟩⟩⟩⟩⟩⟩⟩⟩⟩⟩⟩⟩⟩⟩⟩⟩⟩⟩⟩⟩⟩⟩⟩⟩⟩⟩⟩⟩⟩
set_option maxRecDepth 100000 in
theorem sn_lsp_ok : ∀ q ∈ sn_lsp, sn_lpk q := List.forall_mem_cons.mpr ⟨sn_lsp_0, List.forall_mem_cons.mpr ⟨sn_lsp_1, List.forall_mem_cons.mpr ⟨sn_lsp_2, List.forall_mem_cons.mpr ⟨sn_lsp_3, List.forall_mem_cons.mpr ⟨sn_lsp_4, fun _ h => absurd h List.not_mem_nil⟩⟩⟩⟩⟩
set_option maxRecDepth 100000 in
theorem sn_lspn_ok : ∀ q ∈ sn_lspn, sn_lpnk q := List.forall_mem_cons.mpr ⟨sn_lspn_0, List.forall_mem_cons.mpr ⟨sn_lspn_1, List.forall_mem_cons.mpr ⟨sn_lspn_2, List.forall_mem_cons.mpr ⟨sn_lspn_3, List.forall_mem_cons.mpr ⟨sn_lspn_4, List.forall_mem_cons.mpr ⟨sn_lspn_5, List.forall_mem_cons.mpr ⟨sn_lspn_6, List.forall_mem_cons.mpr ⟨sn_lspn_7, List.forall_mem_cons.mpr ⟨sn_lspn_8, List.forall_mem_cons.mpr ⟨sn_lspn_9, fun _ h => absurd h List.not_mem_nil⟩⟩⟩⟩⟩⟩⟩⟩⟩⟩
set_option maxRecDepth 100000 in
theorem sn_lsn_ok : ∀ q ∈ sn_lsn, sn_lsnk q := List.forall_mem_cons.mpr ⟨sn_lsn_0, fun _ h => absurd h List.not_mem_nil⟩
set_option maxRecDepth 100000 in
theorem sn_ci_ok : ∀ q ∈ sn_ci, Cond.constant (sn_ow q.1) q.2.1 q.2.2 ∈ sn_GT := List.forall_mem_cons.mpr ⟨sn_ci_0, List.forall_mem_cons.mpr ⟨sn_ci_1, List.forall_mem_cons.mpr ⟨sn_ci_2, List.forall_mem_cons.mpr ⟨sn_ci_3, List.forall_mem_cons.mpr ⟨sn_ci_4, List.forall_mem_cons.mpr ⟨sn_ci_5, List.forall_mem_cons.mpr ⟨sn_ci_6, List.forall_mem_cons.mpr ⟨sn_ci_7, fun _ h => absurd h List.not_mem_nil⟩⟩⟩⟩⟩⟩⟩⟩
set_option maxRecDepth 100000 in
theorem sn_cl_ok : ∀ q ∈ sn_cl, Cond.constantLong (sn_ow q.1) q.2.1 q.2.2 ∈ sn_GT := List.forall_mem_cons.mpr ⟨sn_cl_0, List.forall_mem_cons.mpr ⟨sn_cl_1, List.forall_mem_cons.mpr ⟨sn_cl_2, List.forall_mem_cons.mpr ⟨sn_cl_3, List.forall_mem_cons.mpr ⟨sn_cl_4, List.forall_mem_cons.mpr ⟨sn_cl_5, List.forall_mem_cons.mpr ⟨sn_cl_6, List.forall_mem_cons.mpr ⟨sn_cl_7, List.forall_mem_cons.mpr ⟨sn_cl_8, List.forall_mem_cons.mpr ⟨sn_cl_9, List.forall_mem_cons.mpr ⟨sn_cl_10, List.forall_mem_cons.mpr ⟨sn_cl_11, fun _ h => absurd h List.not_mem_nil⟩⟩⟩⟩⟩⟩⟩⟩⟩⟩⟩⟩
set_option maxRecDepth 100000 in
theorem sn_gs_ok : ∀ q ∈ sn_gs, Cond.fieldLink (sn_ow q.1) q.2.1 RX6 (sn_sn q.2.2) "[I" ∈ sn_GT := List.forall_mem_cons.mpr ⟨sn_gs_0, List.forall_mem_cons.mpr ⟨sn_gs_1, List.forall_mem_cons.mpr ⟨sn_gs_2, List.forall_mem_cons.mpr ⟨sn_gs_3, List.forall_mem_cons.mpr ⟨sn_gs_4, fun _ h => absurd h List.not_mem_nil⟩⟩⟩⟩⟩
set_option maxRecDepth 100000 in
theorem sn_kl_ok : ∀ q ∈ sn_kl, sn_klk q := List.forall_mem_cons.mpr ⟨sn_kl_0, List.forall_mem_cons.mpr ⟨sn_kl_1, List.forall_mem_cons.mpr ⟨sn_kl_2, List.forall_mem_cons.mpr ⟨sn_kl_3, List.forall_mem_cons.mpr ⟨sn_kl_4, List.forall_mem_cons.mpr ⟨sn_kl_5, List.forall_mem_cons.mpr ⟨sn_kl_6, List.forall_mem_cons.mpr ⟨sn_kl_7, List.forall_mem_cons.mpr ⟨sn_kl_8, List.forall_mem_cons.mpr ⟨sn_kl_9, List.forall_mem_cons.mpr ⟨sn_kl_10, List.forall_mem_cons.mpr ⟨sn_kl_11, List.forall_mem_cons.mpr ⟨sn_kl_12, List.forall_mem_cons.mpr ⟨sn_kl_13, List.forall_mem_cons.mpr ⟨sn_kl_14, fun _ h => absurd h List.not_mem_nil⟩⟩⟩⟩⟩⟩⟩⟩⟩⟩⟩⟩⟩⟩⟩
set_option maxRecDepth 100000 in
theorem sn_x1007_ok : ∀ q ∈ sn_x1007, Cond.methodLink (sn_ow q.1) q.2 arraycopyName ∈ sn_GT := List.forall_mem_cons.mpr ⟨sn_x1007_0, List.forall_mem_cons.mpr ⟨sn_x1007_1, List.forall_mem_cons.mpr ⟨sn_x1007_2, List.forall_mem_cons.mpr ⟨sn_x1007_3, List.forall_mem_cons.mpr ⟨sn_x1007_4, List.forall_mem_cons.mpr ⟨sn_x1007_5, List.forall_mem_cons.mpr ⟨sn_x1007_6, fun _ h => absurd h List.not_mem_nil⟩⟩⟩⟩⟩⟩⟩
set_option maxRecDepth 100000 in
theorem sn_x1008_ok : ∀ q ∈ sn_x1008, Cond.methodLink (sn_ow q.1) q.2 objectInit ∈ sn_GT := List.forall_mem_cons.mpr ⟨sn_x1008_0, List.forall_mem_cons.mpr ⟨sn_x1008_1, List.forall_mem_cons.mpr ⟨sn_x1008_2, List.forall_mem_cons.mpr ⟨sn_x1008_3, List.forall_mem_cons.mpr ⟨sn_x1008_4, List.forall_mem_cons.mpr ⟨sn_x1008_5, List.forall_mem_cons.mpr ⟨sn_x1008_6, List.forall_mem_cons.mpr ⟨sn_x1008_7, List.forall_mem_cons.mpr ⟨sn_x1008_8, List.forall_mem_cons.mpr ⟨sn_x1008_9, List.forall_mem_cons.mpr ⟨sn_x1008_10, List.forall_mem_cons.mpr ⟨sn_x1008_11, fun _ h => absurd h List.not_mem_nil⟩⟩⟩⟩⟩⟩⟩⟩⟩⟩⟩⟩
set_option maxRecDepth 100000 in
theorem sn_x1005_ok : ∀ q ∈ sn_x1005, Cond.methodLink (sn_ow q.1) q.2 ⟨"java/lang/String", "length", "()I"⟩ ∈ sn_GT := List.forall_mem_cons.mpr ⟨sn_x1005_0, fun _ h => absurd h List.not_mem_nil⟩
set_option maxRecDepth 100000 in
theorem sn_x1006_ok : ∀ q ∈ sn_x1006, Cond.methodLink (sn_ow q.1) q.2 ⟨"java/lang/String", "charAt", "(I)C"⟩ ∈ sn_GT := List.forall_mem_cons.mpr ⟨sn_x1006_0, fun _ h => absurd h List.not_mem_nil⟩
