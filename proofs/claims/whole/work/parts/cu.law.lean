section
variable {X : Nat × (Nat → Int32)} {d : Nat} {al : List Nat} {D : Nat → Bool} {I : Nat → Nat → Int32} {L : Nat → Nat → Int64}
theorem gA_trans {al1 al2 : List Nat} {D1 D2 : Nat → Bool} (h : gA al D al1 D1) (g : gA al1 D1 al2 D2) : gA al D al2 D2 := fun P h1 h2 h3 h0 => g P h1 h2 h3 (h P h1 h2 h3 h0)
/-- the law ends well -/
def LE1 (al : List Nat) (D : Nat → Bool) (t : Option pm_R) : Prop := ∃ al' D' I' L', t = some (some (vi 1), pm_mm al' D' I' L') ∧ gA al D al' D'
/-- what stands behind a round -/
def LN (X : Nat × (Nat → Int32)) (d : Nat) (al : List Nat) (D : Nat → Bool) (x3 : Int32) : Prop := ∀ al1 D1 I1 L1, INV D1 I1 L1 → gA al D al1 D1 → LE1 al D (Rn X (d + 18) co_La_law (1902, [some (vr 900), some (vr 1), some (vr 81), some (vi x3)], [], pm_mm al1 D1 I1 L1))
theorem law_i {mc mr p1 p2 : Nat} {as : List pm_V} {x3 : Int32} (ok : OK3 vi X (d + 18) al D I L mc mr as)
    (h1 : ∀ u al D I L, Rn X (d + 18) co_La_law (p1, [some (vr 900), some (vr 1), some (vr 81), some (vi x3)], [vi u], pm_mm al D I L) = ((Cl X (d + 18) mr (vr 81 :: as) (pm_mm al D I L)).bind pm_ai).bind (fun r => Rn X (d + 18) co_La_law (p2, [some (vr 900), some (vr 1), some (vr 81), some (vi x3)], [vi r.1, vi u], r.2)))
    (h2 : ∀ u0 u1 al D I L, Rn X (d + 18) co_La_law (p2, [some (vr 900), some (vr 1), some (vr 81), some (vi x3)], [vi u1, vi u0], pm_mm al D I L) = cond (decide (u0 = u1)) (Rn X (d + 18) co_La_law (1902, [some (vr 900), some (vr 1), some (vr 81), some (vi x3)], [], pm_mm al D I L)) (some (some (vi 0), pm_mm al D I L)))
    (nx : LN X d al D x3) : LE1 al D (((Cl X (d + 18) mc (vr 1 :: as) (pm_mm al D I L)).bind pm_ai).bind (fun r => Rn X (d + 18) co_La_law (p1, [some (vr 900), some (vr 1), some (vr 81), some (vi x3)], [vi r.1], r.2))) := by
  obtain ⟨v, al', D', I1, L1, I2, L2, c1, c2, iv, ga⟩ := ok
  rw [c1]
  simp only [Option.bind_some, pm_ai]
  rw [h1, c2]
  simp only [Option.bind_some, pm_ai]
  rw [h2, dt rfl, cond_true]
  exact nx al' D' I2 L2 iv ga
theorem lg_self (w : Int64) : lg_cmp w w = 0 := by simp [lg_cmp]
theorem law_l {mc mr p1 p2 : Nat} {as : List pm_V} {x3 : Int32} (ok : OK3 vl X (d + 18) al D I L mc mr as)
    (h1 : ∀ u al D I L, Rn X (d + 18) co_La_law (p1, [some (vr 900), some (vr 1), some (vr 81), some (vi x3)], [vl u], pm_mm al D I L) = ((Cl X (d + 18) mr (vr 81 :: as) (pm_mm al D I L)).bind pm_al).bind (fun r => Rn X (d + 18) co_La_law (p2, [some (vr 900), some (vr 1), some (vr 81), some (vi x3)], [vl r.1, vl u], r.2)))
    (h2 : ∀ u0 u1 al D I L, Rn X (d + 18) co_La_law (p2, [some (vr 900), some (vr 1), some (vr 81), some (vi x3)], [vl u1, vl u0], pm_mm al D I L) = cond (decide (lg_cmp u0 u1 = 0)) (Rn X (d + 18) co_La_law (1902, [some (vr 900), some (vr 1), some (vr 81), some (vi x3)], [], pm_mm al D I L)) (some (some (vi 0), pm_mm al D I L)))
    (nx : LN X d al D x3) : LE1 al D (((Cl X (d + 18) mc (vr 1 :: as) (pm_mm al D I L)).bind pm_al).bind (fun r => Rn X (d + 18) co_La_law (p1, [some (vr 900), some (vr 1), some (vr 81), some (vi x3)], [vl r.1], r.2))) := by
  obtain ⟨v, al', D', I1, L1, I2, L2, c1, c2, iv, ga⟩ := ok
  rw [c1]
  simp only [Option.bind_some, pm_al]
  rw [h1, c2]
  simp only [Option.bind_some, pm_al]
  rw [h2, lg_self, dt rfl, cond_true]
  exact nx al' D' I2 L2 iv ga
/-- a truth laid on the stack -/
theorem lwb {x : Int32} {co : pm_C} {pc : Nat} {ls : List (Option pm_V)} {st : List pm_V} {m : pm_M} : cond (decide (x = 0)) (Rn X d co (pc, ls, vi 0 :: st, m)) (Rn X d co (pc, ls, vi 1 :: st, m)) = Rn X d co (pc, ls, vi (b01 (!decide (x = 0))) :: st, m) := by
  cases decide (x = 0) <;> rfl
theorem law_step {x3 : Int32} (p0 : pm_in x3 X.1 = true) (p1 : pm_in (x3 + 1) X.1 = true) (p2 : pm_in (x3 + 2) X.1 = true) (p3 : pm_in (x3 + 3) X.1 = true) (p4 : pm_in (x3 + 4) X.1 = true) (p5 : pm_in (x3 + 5) X.1 = true) (hl : decide (Int32.ofNat X.1 - 6 < x3) = false) (h : INV D I L) (nx : LN X d al D x3) : LE1 al D (Rn X (d + 18) co_La_law (18, [some (vr 900), some (vr 1), some (vr 81), some (vi x3)], [], pm_mm al D I L)) := by
  rw [sg_La_law_18, hl, cond_false, p0, cond_true]
  simp only [p1, p2, p3, p4, p5, cond_true, lwb]
  generalize X.2 x3.toNatClampNeg &&& 63 = op
  by_cases hc : op = 0
  · rw [dt hc, cond_true]
    exact law_i (ok_feed (d := d + 16) _ _ _ _ _ h) (fun u al D I L => by rw [sg_La_law_225]; simp only [p1, p2, p3, p4, p5, cond_true]) (fun _ _ _ _ _ _ => sg_La_law_254 ..) nx
  rw [df hc, cond_false]
  clear hc
  by_cases hc : op = 1
  · rw [dt hc, cond_true]
    exact law_i (ok_end (d := d + 16) _ h) (fun u al D I L => by rw [sg_La_law_268]; simp only [p1, cond_true]) (fun _ _ _ _ _ _ => sg_La_law_277 ..) nx
  rw [df hc, cond_false]
  clear hc
  by_cases hc : op = 2
  · rw [dt hc, cond_true]
    exact law_i (ok_text (d := d + 9) _ _ h) (fun u al D I L => by rw [sg_La_law_296]; simp only [p1, p2, cond_true]) (fun _ _ _ _ _ _ => sg_La_law_310 ..) nx
  rw [df hc, cond_false]
  clear hc
  by_cases hc : op = 3
  · rw [dt hc, cond_true]
    exact law_i (ok_fault (d := d) _ h) (fun u al D I L => by rw [sg_La_law_324]; simp only [p1, cond_true]) (fun _ _ _ _ _ _ => sg_La_law_333 ..) nx
  rw [df hc, cond_false]
  clear hc
  by_cases hc : op = 4
  · rw [dt hc, cond_true]
    exact law_i (ok_band (d := d) _ _ h) (fun u al D I L => by rw [sg_La_law_352]; simp only [p1, p2, cond_true]) (fun _ _ _ _ _ _ => sg_La_law_366 ..) nx
  rw [df hc, cond_false]
  clear hc
  by_cases hc : op = 5
  · rw [dt hc, cond_true]
    exact law_i (ok_note (d := d) _ _ _ h) (fun u al D I L => by rw [sg_La_law_390]; simp only [p1, p2, p3, cond_true]) (fun _ _ _ _ _ _ => sg_La_law_409 ..) nx
  rw [df hc, cond_false]
  clear hc
  by_cases hc : op = 6
  · rw [dt hc, cond_true]
    exact law_i (ok_treads (d := d) _ h) (fun u al D I L => by rw [sg_La_law_423]; simp only [p1, cond_true]) (fun _ _ _ _ _ _ => sg_La_law_432 ..) nx
  rw [df hc, cond_false]
  clear hc
  by_cases hc : op = 7
  · rw [dt hc, cond_true]
    exact law_i (ok_played (d := d) _ _ _ _ _ h) (fun u al D I L => by rw [sg_La_law_466]; simp only [p1, p2, p3, p4, p5, cond_true]) (fun _ _ _ _ _ _ => sg_La_law_495 ..) nx
  rw [df hc, cond_false]
  clear hc
  by_cases hc : op = 8
  · rw [dt hc, cond_true]
    exact law_i (ok_shift (d := d) _ _ _ _ _ h) (fun u al D I L => by rw [sg_La_law_529]; simp only [p1, p2, p3, p4, p5, cond_true]) (fun _ _ _ _ _ _ => sg_La_law_558 ..) nx
  rw [df hc, cond_false]
  clear hc
  by_cases hc : op = 9
  · rw [dt hc, cond_true, sg_La_law_592]
    exact law_i (ok_cut (d := d) _ _ _ _ h) (fun u al D I L => by rw [sg_La_law_595]; simp only [p1, p2, p3, p4, cond_true, lwb]; rw [sg_La_law_624]) (fun _ _ _ _ _ _ => sg_La_law_627 ..) nx
  rw [df hc, cond_false]
  clear hc
  by_cases hc : op = 10
  · rw [dt hc, cond_true, sg_La_law_656]
    exact law_i (ok_work (d := d) _ _ _ h) (fun u al D I L => by rw [sg_La_law_659]; simp only [p1, p2, p3, cond_true, lwb]; rw [sg_La_law_683]) (fun _ _ _ _ _ _ => sg_La_law_686 ..) nx
  rw [df hc, cond_false]
  clear hc
  by_cases hc : op = 11
  · rw [dt hc, cond_true, sg_La_law_710]
    exact law_i (ok_blind (d := d) _ _ h) (fun u al D I L => by rw [sg_La_law_713]; simp only [p1, p2, cond_true, lwb]; rw [sg_La_law_732]) (fun _ _ _ _ _ _ => sg_La_law_735 ..) nx
  rw [df hc, cond_false]
  clear hc
  by_cases hc : op = 12
  · rw [dt hc, cond_true]
    exact law_i (ok_leather (d := d) _ _ h) (fun u al D I L => by rw [sg_La_law_754]; simp only [p1, p2, cond_true]) (fun _ _ _ _ _ _ => sg_La_law_768 ..) nx
  rw [df hc, cond_false]
  clear hc
  by_cases hc : op = 13
  · rw [dt hc, cond_true, sg_La_law_797]
    exact law_l (ok_share (d := d) _ _ _ h) (fun u al D I L => by rw [sg_La_law_800]; simp only [p1, p2, p3, cond_true, lwb]; rw [sg_La_law_824]) (fun _ _ _ _ _ _ => sg_La_law_827 ..) nx
  rw [df hc, cond_false]
  clear hc
  by_cases hc : op = 14
  · rw [dt hc, cond_true, sg_La_law_857]
    exact law_i (ok_duel (d := d) _ _ _ h) (fun u al D I L => by rw [sg_La_law_860]; simp only [p1, p2, p3, cond_true, lwb]; rw [sg_La_law_884]) (fun _ _ _ _ _ _ => sg_La_law_887 ..) nx
  rw [df hc, cond_false]
  clear hc
  by_cases hc : op = 15
  · rw [dt hc, cond_true, sg_La_law_921]
    exact law_l (ok_mouse (d := d) _ _ _ _ h) (fun u al D I L => by rw [sg_La_law_924]; simp only [p1, p2, p3, p4, cond_true, lwb]; rw [sg_La_law_953]) (fun _ _ _ _ _ _ => sg_La_law_956 ..) nx
  rw [df hc, cond_false]
  clear hc
  by_cases hc : op = 16
  · rw [dt hc, cond_true]
    exact law_i (ok_line (d := d) _ _ _ h) (fun u al D I L => by rw [sg_La_law_981]; simp only [p1, p2, p3, cond_true]) (fun _ _ _ _ _ _ => sg_La_law_1000 ..) nx
  rw [df hc, cond_false]
  clear hc
  by_cases hc : op = 17
  · rw [dt hc, cond_true]
    exact law_i (ok_fits (d := d) _ _ _ _ h) (fun u al D I L => by rw [sg_La_law_1029]; simp only [p1, p2, p3, p4, cond_true]) (fun _ _ _ _ _ _ => sg_La_law_1053 ..) nx
  rw [df hc, cond_false]
  clear hc
  by_cases hc : op = 18
  · rw [dt hc, cond_true]
    exact law_i (ok_drawn (d := d) _ _ _ _ h) (fun u al D I L => by rw [sg_La_law_1082]; simp only [p1, p2, p3, p4, cond_true]) (fun _ _ _ _ _ _ => sg_La_law_1106 ..) nx
  rw [df hc, cond_false]
  clear hc
  by_cases hc : op = 19
  · rw [dt hc, cond_true]
    exact law_i (ok_after (d := d) _ _ _ _ h) (fun u al D I L => by rw [sg_La_law_1135]; simp only [p1, p2, p3, p4, cond_true]) (fun _ _ _ _ _ _ => sg_La_law_1159 ..) nx
  rw [df hc, cond_false]
  clear hc
  by_cases hc : op = 20
  · rw [dt hc, cond_true]
    exact law_i (ok_need (d := d) _ _ _ _ h) (fun u al D I L => by rw [sg_La_law_1188]; simp only [p1, p2, p3, p4, cond_true]) (fun _ _ _ _ _ _ => sg_La_law_1212 ..) nx
  rw [df hc, cond_false]
  clear hc
  by_cases hc : op = 21
  · rw [dt hc, cond_true]
    exact law_i (ok_rank (d := d) _ _ _ _ h) (fun u al D I L => by rw [sg_La_law_1241]; simp only [p1, p2, p3, p4, cond_true]) (fun _ _ _ _ _ _ => sg_La_law_1265 ..) nx
  rw [df hc, cond_false]
  clear hc
  by_cases hc : op = 22
  · rw [dt hc, cond_true]
    exact law_i (ok_canon (d := d) _ _ _ _ h) (fun u al D I L => by rw [sg_La_law_1294]; simp only [p1, p2, p3, p4, cond_true]) (fun _ _ _ _ _ _ => sg_La_law_1318 ..) nx
  rw [df hc, cond_false]
  clear hc
  by_cases hc : op = 23
  · rw [dt hc, cond_true, sg_La_law_1352]
    exact law_l (ok_odds (d := d) _ _ _ _ h) (fun u al D I L => by rw [sg_La_law_1355]; simp only [p1, p2, p3, p4, cond_true, lwb]; rw [sg_La_law_1384]) (fun _ _ _ _ _ _ => sg_La_law_1387 ..) nx
  rw [df hc, cond_false]
  clear hc
  by_cases hc : op = 24
  · rw [dt hc, cond_true, sg_La_law_1417]
    exact law_l (ok_mean (d := d) _ _ _ h) (fun u al D I L => by rw [sg_La_law_1420]; simp only [p1, p2, p3, cond_true, lwb]; rw [sg_La_law_1444]) (fun _ _ _ _ _ _ => sg_La_law_1447 ..) nx
  rw [df hc, cond_false]
  clear hc
  by_cases hc : op = 25
  · rw [dt hc, cond_true]
    exact law_i (ok_dense (d := d) _ _ h) (fun u al D I L => by rw [sg_La_law_1467]; simp only [p1, p2, cond_true]) (fun _ _ _ _ _ _ => sg_La_law_1481 ..) nx
  rw [df hc, cond_false]
  clear hc
  by_cases hc : op = 26
  · rw [dt hc, cond_true]
    exact law_i (ok_like (d := d) _ _ h) (fun u al D I L => by rw [sg_La_law_1500]; simp only [p1, p2, cond_true]) (fun _ _ _ _ _ _ => sg_La_law_1514 ..) nx
  rw [df hc, cond_false]
  clear hc
  by_cases hc : op = 27
  · rw [dt hc, cond_true]
    exact law_i (ok_joined (d := d) _ _ h) (fun u al D I L => by rw [sg_La_law_1533]; simp only [p1, p2, cond_true]) (fun _ _ _ _ _ _ => sg_La_law_1547 ..) nx
  rw [df hc, cond_false]
  clear hc
  by_cases hc : op = 28
  · rw [dt hc, cond_true]
    exact law_i (ok_tour (d := d) _ _ h) (fun u al D I L => by rw [sg_La_law_1566]; simp only [p1, p2, cond_true]) (fun _ _ _ _ _ _ => sg_La_law_1580 ..) nx
  rw [df hc, cond_false]
  clear hc
  by_cases hc : op = 29
  · rw [dt hc, cond_true, sg_La_law_1604]
    exact law_i (ok_centre (d := d) _ _ h) (fun u al D I L => by rw [sg_La_law_1607]; simp only [p1, p2, cond_true, lwb]; rw [sg_La_law_1626]) (fun _ _ _ _ _ _ => sg_La_law_1629 ..) nx
  rw [df hc, cond_false]
  clear hc
  by_cases hc : op = 30
  · rw [dt hc, cond_true]
    exact law_i (ok_chord (d := d) _ _ _ h) (fun u al D I L => by rw [sg_La_law_1653]; simp only [p1, p2, p3, cond_true]) (fun _ _ _ _ _ _ => sg_La_law_1672 ..) nx
  rw [df hc, cond_false]
  clear hc
  by_cases hc : op = 31
  · rw [dt hc, cond_true]
    exact law_i (ok_leaves (d := d) _ h) (fun u al D I L => by rw [sg_La_law_1686]; simp only [p1, cond_true]) (fun _ _ _ _ _ _ => sg_La_law_1695 ..) nx
  rw [df hc, cond_false]
  clear hc
  by_cases hc : op = 32
  · rw [dt hc, cond_true]
    exact law_i (ok_toil (d := d) _ _ _ _ h) (fun u al D I L => by rw [sg_La_law_1724]; simp only [p1, p2, p3, p4, cond_true]) (fun _ _ _ _ _ _ => sg_La_law_1748 ..) nx
  rw [df hc, cond_false]
  clear hc
  by_cases hc : op = 33
  · rw [dt hc, cond_true, sg_La_law_1787]
    exact law_l (ok_trodden (d := d) _ _ _ _ _ h) (fun u al D I L => by rw [sg_La_law_1790]; simp only [p1, p2, p3, p4, p5, cond_true, lwb]; rw [sg_La_law_1824]) (fun _ _ _ _ _ _ => sg_La_law_1827 ..) nx
  rw [df hc, cond_false]
  clear hc
  by_cases hc : op = 34
  · rw [dt hc, cond_true]
    exact law_i (ok_count (d := d) _ h) (fun u al D I L => by rw [sg_La_law_1842]; simp only [p1, cond_true]) (fun _ _ _ _ _ _ => sg_La_law_1851 ..) nx
  rw [df hc, cond_false]
  clear hc
  by_cases hc : op = 35
  · rw [dt hc, cond_true]
    exact law_i (ok_image (d := d + 14) _ h) (fun u al D I L => by rw [sg_La_law_1865]; simp only [p1, cond_true]) (fun _ _ _ _ _ _ => sg_La_law_1874 ..) nx
  rw [df hc, cond_false]
  clear hc
  by_cases hc : op = 36
  · rw [dt hc, cond_true]
    exact law_i (ok_again (d := d + 15) _ h) (fun u al D I L => by rw [sg_La_law_1888]; simp only [p1, cond_true]) (fun _ _ _ _ _ _ => sg_La_law_1897 ..) nx
  rw [df hc, cond_false]
  clear hc
  exact nx al D I L h gA_refl
end
