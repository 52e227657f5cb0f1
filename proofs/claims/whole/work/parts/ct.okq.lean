section
variable {X : Nat × (Nat → Int32)} {d : Nat} {al : List Nat} {D : Nat → Bool} {I : Nat → Nat → Int32} {L : Nat → Nat → Int64}
theorem tl_TG {J : Nat → Nat → Int32} {m : Nat → Nat} (e : tlE I J) (g : TG I m) : TG J m := TG_pt (fun a k h1 h2 _ => by rw [e a (by omega)]) g
/-- a question with ways -/
theorem op_w {α : Type} {wr : α → pm_V} {mc mr : Nat} {as : List pm_V} (v : (Nat → Nat → Int32) → (Nat → Nat) → α) (h : INV D I L) (ht : ∀ J m, tlE I J → v J m = v I m)
    (hq : ∀ m, rG I m → RL I m → cW D I L m → cZ I → ∃ al' D' J M, Cl X d mc (vr 1 :: as) (pm_mm al D I L) = some (some (wr (v I m)), pm_mm al' D' J M) ∧ cF I J ∧ cW D' J M m ∧ wyA al D al' D')
    (hr : ∀ al' D' J M m, rG J m → ∃ K M', Cl X d mr (vr 81 :: as) (pm_mm al' D' J M) = some (some (wr (v J m)), pm_mm al' D' K M') ∧ rF J K ∧ ∀ a, 220 ≤ a → a < 232 → M' a = M a) : OK3 wr X d al D I L mc mr as := by
  obtain ⟨⟨m, g, r, w⟩, z, y, im⟩ := h
  obtain ⟨al', D', J, M, c1, c2, c3, c4⟩ := hq m g.1 r w z
  obtain ⟨K, M', k1, k2, k3⟩ := hr al' D' J M m (tl_TG (cF_tl c2) g).1
  rw [ht J m (cF_tl c2)] at k1
  exact ⟨v I m, al', D', J, M, K, M', c1, k1, INV_r (INV_q g r z y im c2 c3 c4) k2 k3, gA_w c4⟩
theorem wyA_refl : wyA al D al D := fun _ _ h => h
/-- a plain question -/
theorem op_c {α : Type} {wr : α → pm_V} {mc mr : Nat} {as : List pm_V} (v : (Nat → Nat → Int32) → (Nat → Nat) → α) (h : INV D I L) (ht : ∀ J m, tlE I J → v J m = v I m)
    (hq : ∀ m, rG I m → RL I m → cZ I → ∃ J, Cl X d mc (vr 1 :: as) (pm_mm al D I L) = some (some (wr (v I m)), pm_mm al D J L) ∧ cX I J)
    (hr : ∀ al' D' J M m, rG J m → ∃ K M', Cl X d mr (vr 81 :: as) (pm_mm al' D' J M) = some (some (wr (v J m)), pm_mm al' D' K M') ∧ rF J K ∧ ∀ a, 220 ≤ a → a < 232 → M' a = M a) : OK3 wr X d al D I L mc mr as :=
  op_w v h ht (fun m g r w z => by
    obtain ⟨J, c1, c2⟩ := hq m g r z
    exact ⟨al, D, J, L, c1, cX_F c2, cW_pt (fun a k h1 h2 _ => by rw [c2.1 a (by omega) trivial]) g (fun a h1 h2 => ⟨c2.1 a (by omega) trivial, rfl⟩) (fun _ _ => rfl) w, wyA_refl⟩) hr
theorem up_rF {J : Nat → Nat → Int32} {i : Nat} {x : Int32} : rF J (pm_up J 81 i x) := fun a h1 _ => up_rw h1
theorem ok_played (b : Int32) (s : Int32) (u : Int32) (t : Int32) (w : Int32) (h : INV D I L) : OK3 vi X (d + 18) al D I L 123 216 [vi b, vi s, vi u, vi t, vi w] :=
  op_c (fun I m => vPlayed I m b s u t w) h (fun J m e => vPlayed_tl b s u t w e)
    (fun m g r z => p_played (d := d + 13) b s u t w g r)
    (fun al1 D1 J M m g => by obtain ⟨K, k1, k2⟩ := r_played (X := X) (d := d + 13) (al := al1) (D := D1) (L := M) b s u t w g; exact ⟨K, M, k1, k2, fun _ _ _ => rfl⟩)
theorem ok_drawn (b : Int32) (s : Int32) (u : Int32) (w : Int32) (h : INV D I L) : OK3 vi X (d + 18) al D I L 124 253 [vi b, vi s, vi u, vi w] :=
  op_c (fun I m => vDrawn I m b s u w) h (fun J m e => vDrawn_tl b s u w e)
    (fun m g r z => p_drawn (d := d + 13) b s u w g r)
    (fun al1 D1 J M m g => by obtain ⟨K, k1, k2⟩ := r_drawn (X := X) (d := d + 13) (al := al1) (D := D1) (L := M) b s u w g; exact ⟨K, M, k1, k2, fun _ _ _ => rfl⟩)
theorem ok_after (b : Int32) (s : Int32) (u : Int32) (w : Int32) (h : INV D I L) : OK3 vi X (d + 18) al D I L 125 258 [vi b, vi s, vi u, vi w] :=
  op_c (fun I m => vAfter I m b s u w) h (fun J m e => vAfter_tl b s u w e)
    (fun m g r z => p_after (d := d + 13) b s u w g r z)
    (fun al1 D1 J M m g => by obtain ⟨K, k1, k2⟩ := r_after (X := X) (d := d + 13) (al := al1) (D := D1) (L := M) b s u w g; exact ⟨K, M, k1, k2, fun _ _ _ => rfl⟩)
theorem ok_need (b : Int32) (s : Int32) (u : Int32) (w : Int32) (h : INV D I L) : OK3 vi X (d + 18) al D I L 127 260 [vi b, vi s, vi u, vi w] :=
  op_c (fun I m => vNeed I m b s u w) h (fun J m e => vNeed_tl b s u w e)
    (fun m g r z => p_need (d := d + 13) b s u w g r)
    (fun al1 D1 J M m g => by obtain ⟨K, k1, k2⟩ := r_need (X := X) (d := d + 13) (al := al1) (D := D1) (L := M) b s u w g; exact ⟨K, M, k1, k2, fun _ _ _ => rfl⟩)
theorem ok_canon (b : Int32) (s : Int32) (u : Int32) (w : Int32) (h : INV D I L) : OK3 vi X (d + 18) al D I L 132 264 [vi b, vi s, vi u, vi w] :=
  op_c (fun I m => vCanon I m b s u w) h (fun J m e => vCanon_tl b s u w e)
    (fun m g r z => p_canon (d := d + 13) b s u w g r)
    (fun al1 D1 J M m g => by obtain ⟨K, k1, k2⟩ := r_canon (X := X) (d := d + 13) (al := al1) (D := D1) (L := M) b s u w g; exact ⟨K, M, k1, k2, fun _ _ _ => rfl⟩)
theorem ok_cut (b : Int32) (s : Int32) (u : Int32) (W : Bool) (h : INV D I L) : OK3 vi X (d + 18) al D I L 136 222 [vi b, vi s, vi u, vi (b01 W)] :=
  op_c (fun I m => vCut I m b s u W) h (fun J m e => vCut_tl b s u W e)
    (fun m g r z => p_cut (d := d + 13) b s u W g r)
    (fun al1 D1 J M m g => by obtain ⟨K, k1, k2⟩ := r_cut (X := X) (d := d + 13) (al := al1) (D := D1) (L := M) b s u W g; exact ⟨K, M, k1, k2, fun _ _ _ => rfl⟩)
theorem ok_rank (b : Int32) (s : Int32) (u : Int32) (w : Int32) (h : INV D I L) : OK3 vi X (d + 18) al D I L 133 263 [vi b, vi s, vi u, vi w] :=
  op_c (fun I m => vRank I m b s u w) h (fun J m e => vRank_tl b s u w e)
    (fun m g r z => p_rank (d := d + 13) b s u w g r)
    (fun al1 D1 J M m g => by obtain ⟨K, k1, k2⟩ := r_rank (X := X) (d := d + 13) (al := al1) (D := D1) (L := M) b s u w g; exact ⟨K, M, k1, k2, fun _ _ _ => rfl⟩)
theorem ok_tour (b : Int32) (w : Int32) (h : INV D I L) : OK3 vi X (d + 18) al D I L 145 274 [vi b, vi w] :=
  op_c (fun I m => vTour I m b w) h (fun J m e => vTour_tl b w e)
    (fun m g r z => p_tour (d := d + 13) b w g r)
    (fun al1 D1 J M m g => by obtain ⟨K, k1, k2⟩ := r_tour (X := X) (d := d + 13) (al := al1) (D := D1) (L := M) b w g; exact ⟨K, M, k1, k2, fun _ _ _ => rfl⟩)
theorem ok_leather (b : Int32) (w : Int32) (h : INV D I L) : OK3 vi X (d + 18) al D I L 142 231 [vi b, vi w] :=
  op_c (fun I m => vLeather I m b w) h (fun J m e => vLeather_tl b w e)
    (fun m g r z => p_leather (d := d + 13) b w g r)
    (fun al1 D1 J M m g => by obtain ⟨K, k1, k2⟩ := r_leather (X := X) (d := d + 12) (al := al1) (D := D1) (L := M) b w g; exact ⟨K, M, k1, k2, fun _ _ _ => rfl⟩)
theorem ok_joined (b : Int32) (w : Int32) (h : INV D I L) : OK3 vi X (d + 18) al D I L 144 272 [vi b, vi w] :=
  op_c (fun I m => vJoined I m b w) h (fun J m e => vJoined_tl b w e)
    (fun m g r z => p_joined (d := d + 13) b w g r)
    (fun al1 D1 J M m g => by obtain ⟨K, k1, k2⟩ := r_joined (X := X) (d := d + 12) (al := al1) (D := D1) (L := M) b w g; exact ⟨K, M, k1, k2, fun _ _ _ => rfl⟩)
theorem ok_centre (b : Int32) (W : Bool) (h : INV D I L) : OK3 vi X (d + 18) al D I L 147 275 [vi b, vi (b01 W)] :=
  op_c (fun I m => vCentre I m b W) h (fun J m e => vCentre_tl b W e)
    (fun m g r z => p_centre (d := d + 13) b W g r)
    (fun al1 D1 J M m g => by obtain ⟨K, k1, k2⟩ := r_centre (X := X) (d := d + 12) (al := al1) (D := D1) (L := M) b W g; exact ⟨K, M, k1, k2, fun _ _ _ => rfl⟩)
theorem ok_leaves (b : Int32) (h : INV D I L) : OK3 vi X (d + 18) al D I L 148 278 [vi b] :=
  op_c (fun I m => vLeaves I m b) h (fun J m e => vLeaves_tl b e)
    (fun m g r z => p_leaves (d := d + 13) b g r)
    (fun al1 D1 J M m g => by obtain ⟨K, k1, k2⟩ := r_leaves (X := X) (d := d + 12) (al := al1) (D := D1) (L := M) b g; exact ⟨K, M, k1, k2, fun _ _ _ => rfl⟩)
theorem ok_share (b : Int32) (w : Int32) (W : Bool) (h : INV D I L) : OK3 vl X (d + 18) al D I L 143 235 [vi b, vi w, vi (b01 W)] :=
  op_c (fun I m => vShare I m b w W) h (fun J m e => vShare_tl b w W e)
    (fun m g r z => p_share (d := d + 13) b w W g r)
    (fun al1 D1 J M m g => by obtain ⟨K, k1, k2⟩ := r_share (X := X) (d := d + 12) (al := al1) (D := D1) (L := M) b w W g; exact ⟨K, M, k1, k2, fun _ _ _ => rfl⟩)
theorem ok_shift (b : Int32) (s : Int32) (u : Int32) (t : Int32) (w : Int32) (h : INV D I L) : OK3 vi X (d + 18) al D I L 135 220 [vi b, vi s, vi u, vi t, vi w] :=
  op_c (fun I m => vShift I m b s u t w) h (fun J m e => vShift_tl b s u t w e)
    (fun m g r z => p_shift (d := d + 2) b s u t w g r z)
    (fun al1 D1 J M m g => by obtain ⟨K, k1, k2⟩ := r_shift (X := X) (d := d + 13) (al := al1) (D := D1) (L := M) b s u t w g; exact ⟨K, M, k1, k2, fun _ _ _ => rfl⟩)
theorem ok_band (b : Int32) (w : Int32) (h : INV D I L) : OK3 vi X (d + 18) al D I L 114 204 [vi b, vi w] :=
  op_c (fun I m => vBand I m b w) h (fun J m e => vBand_tl b w e)
    (fun m g r z => ⟨I, q_band (d := d + 14) b w g r, cX_refl⟩)
    (fun al1 D1 J M m g => by obtain ⟨K, k1, k2⟩ := r_band (X := X) (d := d + 14) (al := al1) (D := D1) (L := M) b w g; exact ⟨K, M, k1, k2, fun _ _ _ => rfl⟩)
theorem ok_chord (b : Int32) (s : Int32) (w : Int32) (h : INV D I L) : OK3 vi X (d + 18) al D I L 151 277 [vi b, vi s, vi w] :=
  op_c (fun I m => vChord I m b s w) h (fun J m e => vChord_tl b s w e)
    (fun m g r z => ⟨I, q_chord (d := d + 14) b s w g r, cX_refl⟩)
    (fun al1 D1 J M m g => by obtain ⟨K, k1, k2⟩ := r_chord (X := X) (d := d + 14) (al := al1) (D := D1) (L := M) b s w g; exact ⟨K, M, k1, k2, fun _ _ _ => rfl⟩)
theorem ok_dense (b : Int32) (w : Int32) (h : INV D I L) : OK3 vi X (d + 18) al D I L 118 270 [vi b, vi w] :=
  op_c (fun I m => vDense I m b w) h (fun J m e => vDense_tl b w e)
    (fun m g r z => ⟨I, q_dense (d := d + 15) b w g r, cX_refl⟩)
    (fun al1 D1 J M m g => by obtain ⟨K, k1, k2⟩ := r_dense (X := X) (d := d + 14) (al := al1) (D := D1) (L := M) b w g; exact ⟨K, M, k1, k2, fun _ _ _ => rfl⟩)
theorem ok_like (b : Int32) (w : Int32) (h : INV D I L) : OK3 vi X (d + 18) al D I L 119 271 [vi b, vi w] :=
  op_c (fun I m => vLike I m b w) h (fun J m e => vLike_tl b w e)
    (fun m g r z => ⟨I, q_like (d := d + 15) b w g r, cX_refl⟩)
    (fun al1 D1 J M m g => by obtain ⟨K, k1, k2⟩ := r_like (X := X) (d := d + 14) (al := al1) (D := D1) (L := M) b w g; exact ⟨K, M, k1, k2, fun _ _ _ => rfl⟩)
theorem ok_mouse (b : Int32) (s : Int32) (w : Int32) (W : Bool) (h : INV D I L) : OK3 vl X (d + 18) al D I L 150 241 [vi b, vi s, vi w, vi (b01 W)] :=
  op_c (fun I m => vMouse I m b s w W) h (fun J m e => vMouse_tl b s w W e)
    (fun m g r z => ⟨I, q_mouse (d := d + 14) b s w W g r, cX_refl⟩)
    (fun al1 D1 J M m g => by obtain ⟨K, N, k1, k2, k3⟩ := r_mouse (X := X) (d := d + 14) (al := al1) (D := D1) (L := M) b s w W g; exact ⟨K, N, k1, k2, fun a a1 a2 => funext (fun j => k3 a j (by omega) (by omega))⟩)
theorem ok_duel (b : Int32) (w : Int32) (W : Bool) (h : INV D I L) : OK3 vi X (d + 18) al D I L 149 239 [vi b, vi w, vi (b01 W)] :=
  op_c (fun I m => vDuel I m b w W) h (fun J m e => vDuel_tl b w W e)
    (fun m g r z => ⟨I, q_duel (d := d + 6) b w W g r, cX_refl⟩)
    (fun al1 D1 J M m g => by obtain ⟨K, k1, k2⟩ := r_duel (X := X) (d := d + 14) (al := al1) (D := D1) (L := M) b w W g; exact ⟨K, M, k1, k2, fun _ _ _ => rfl⟩)
theorem ok_mean (b : Int32) (s : Int32) (W : Bool) (h : INV D I L) : OK3 vl X (d + 18) al D I L 141 266 [vi b, vi s, vi (b01 W)] :=
  op_w (fun I m => vMean I m b s W) h (fun J m e => vMean_tl b s W e)
    (fun m g r cw z => by obtain ⟨al1, D1, J, M, c1, c2, c3, c4, c5⟩ := q_mean (X := X) (d := d) (al := al) b s W g r cw; exact ⟨al1, D1, J, M, c1, c2, c3, c5⟩)
    (fun al1 D1 J M m g => by obtain ⟨K, k1, k2⟩ := r_mean (X := X) (d := d + 13) (al := al1) (D := D1) (L := M) b s W g; exact ⟨K, M, k1, k2, fun _ _ _ => rfl⟩)
theorem ok_odds (b : Int32) (s : Int32) (w : Int32) (W : Bool) (h : INV D I L) : OK3 vl X (d + 18) al D I L 140 265 [vi b, vi s, vi w, vi (b01 W)] :=
  op_w (fun I m => vOdds I m b s w W) h (fun J m e => vOdds_tl b s w W e)
    (fun m g r cw z => by obtain ⟨al1, D1, J, M, c1, c2, c3, c4, c5⟩ := q_odds (X := X) (d := d) (al := al) b s w W g r cw; exact ⟨al1, D1, J, M, c1, c2, c3, c5⟩)
    (fun al1 D1 J M m g => by obtain ⟨K, k1, k2⟩ := r_odds (X := X) (d := d + 13) (al := al1) (D := D1) (L := M) b s w W g; exact ⟨K, M, k1, k2, fun _ _ _ => rfl⟩)
theorem ok_work (b : Int32) (s : Int32) (W : Bool) (h : INV D I L) : OK3 vi X (d + 18) al D I L 138 223 [vi b, vi s, vi (b01 W)] :=
  op_w (fun I m => vWork I m b s W) h (fun J m e => vWork_tl b s W e)
    (fun m g r cw z => by obtain ⟨al1, D1, J, M, c1, c2, c3, c4, c5⟩ := q_work (X := X) (d := d) (al := al) b s W g r cw; exact ⟨al1, D1, J, M, c1, c2, c3, c5⟩)
    (fun al1 D1 J M m g => by obtain ⟨K, k1, k2⟩ := r_work (X := X) (d := d + 13) (al := al1) (D := D1) (L := M) b s W g; exact ⟨K, M, k1, k2, fun _ _ _ => rfl⟩)
theorem ok_blind (b : Int32) (W : Bool) (h : INV D I L) : OK3 vi X (d + 18) al D I L 139 224 [vi b, vi (b01 W)] :=
  op_w (fun I m => vBlind I m b W) h (fun J m e => vBlind_tl b W e)
    (fun m g r cw z => by obtain ⟨al1, D1, J, M, c1, c2, c3, c4, c5⟩ := q_blind (X := X) (d := d) (al := al) b W g r cw; exact ⟨al1, D1, J, M, c1, c2, c3, c5⟩)
    (fun al1 D1 J M m g => by obtain ⟨K, k1, k2⟩ := r_blind (X := X) (d := d + 13) (al := al1) (D := D1) (L := M) b W g; exact ⟨K, M, k1, k2, fun _ _ _ => rfl⟩)
theorem ok_trodden (b : Int32) (s : Int32) (u : Int32) (t : Int32) (W : Bool) (h : INV D I L) : OK3 vl X (d + 18) al D I L 156 280 [vi b, vi s, vi u, vi t, vi (b01 W)] :=
  op_w (fun I m => vTrodden I m b s u t W) h (fun J m e => vTrodden_tl b s u t W e)
    (fun m g r cw z => by obtain ⟨al1, D1, J, M, c1, c2, c3, c4, c5⟩ := q_trodden (X := X) (d := d) (al := al) b s u t W g r cw; exact ⟨al1, D1, J, M, c1, c2, c3, c5⟩)
    (fun al1 D1 J M m g => by obtain ⟨K, k1, k2⟩ := r_trodden (X := X) (d := d + 12) (al := al1) (D := D1) (L := M) b s u t W g; exact ⟨K, M, k1, k2, fun _ _ _ => rfl⟩)
theorem ok_toil (b : Int32) (s : Int32) (u : Int32) (w : Int32) (h : INV D I L) : OK3 vi X (d + 18) al D I L 154 279 [vi b, vi s, vi u, vi w] :=
  op_w (fun I m => vToil I m b s u w) h (fun J m e => vToil_tl b s u w e)
    (fun m g r cw z => by obtain ⟨al1, D1, J, M, c1, c2, c3, c4, c5⟩ := q_toil (X := X) (d := d) (al := al) b s u w g r cw; exact ⟨al1, D1, J, M, c1, c2, c3, c5⟩)
    (fun al1 D1 J M m g => by obtain ⟨K, k1, k2⟩ := r_toil (X := X) (d := d + 12) (al := al1) (D := D1) (L := M) b s u w g; exact ⟨K, M, k1, k2, fun _ _ _ => rfl⟩)
theorem ok_fits (b : Int32) (s : Int32) (u : Int32) (w : Int32) (h : INV D I L) : OK3 vi X (d + 18) al D I L 153 251 [vi b, vi s, vi u, vi w] :=
  op_w (fun I m => vFits I m b s u w) h (fun J m e => vFits_tl b s u w e)
    (fun m g r cw z => by obtain ⟨al1, D1, J, M, c1, c2, c3, c4, c5⟩ := q_fits (X := X) (d := d) (al := al) b s u w g r cw; exact ⟨al1, D1, J, M, c1, c2, c3, c5⟩)
    (fun al1 D1 J M m g => by obtain ⟨K, k1, k2⟩ := r_fits (X := X) (d := d + 12) (al := al1) (D := D1) (L := M) b s u w g; exact ⟨K, M, k1, k2, fun _ _ _ => rfl⟩)
theorem ok_fault (w : Int32) (h : INV D I L) : OK3 vi X (d + 18) al D I L 109 194 [vi w] :=
  op_c (fun I m => vFault I w) h (fun J m e => vFault_tl w e)
    (fun m g r z => ⟨I, q_fault (d := d + 17) w r, cX_refl⟩)
    (fun al1 D1 J M m g => ⟨_, M, r_fault (d := d + 17) w, up_rF, fun _ _ _ => rfl⟩)
theorem ok_count (w : Int32) (h : INV D I L) : OK3 vi X (d + 18) al D I L 110 281 [vi w] :=
  op_c (fun I m => vCount I w) h (fun J m e => vCount_tl w e)
    (fun m g r z => ⟨I, q_count (d := d + 17) w r, cX_refl⟩)
    (fun al1 D1 J M m g => ⟨_, M, r_count (d := d + 16) w, up_rF, fun _ _ _ => rfl⟩)
theorem ok_treads (w : Int32) (h : INV D I L) : OK3 vi X (d + 18) al D I L 116 206 [vi w] :=
  op_c (fun I m => vTreads I m w) h (fun J m e => vTreads_tl w e)
    (fun m g r z => ⟨I, q_treads (d := d + 16) w g r, cX_refl⟩)
    (fun al1 D1 J M m g => ⟨_, M, r_treads (d := d + 15) w g, up_rF, fun _ _ _ => rfl⟩)
theorem ok_note (s t w : Int32) (h : INV D I L) : OK3 vi X (d + 18) al D I L 115 205 [vi s, vi t, vi w] :=
  op_c (fun I m => vNote I m s t w) h (fun J m e => vNote_tl s t w e)
    (fun m g r z => ⟨I, q_note (d := d + 16) s t w g r, cX_refl⟩)
    (fun al1 D1 J M m g => ⟨_, M, r_note (d := d + 14) s t w g, (up_rF.trans up_rF), fun _ _ _ => rfl⟩)
theorem ok_line (s t w : Int32) (h : INV D I L) : OK3 vi X (d + 18) al D I L 117 245 [vi s, vi t, vi w] :=
  op_c (fun I m => vLine I m s t w) h (fun J m e => vLine_tl s t w e)
    (fun m g r z => ⟨I, q_line (d := d + 16) s t w g r, cX_refl⟩)
    (fun al1 D1 J M m g => ⟨_, M, r_line (d := d + 14) s t w g, (up_rF.trans up_rF), fun _ _ _ => rfl⟩)
end
