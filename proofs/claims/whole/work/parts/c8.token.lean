section
variable {X : Nat × (Nat → Int32)} {d : Nat} {al : List Nat} {D : Nat → Bool} {I : Nat → Nat → Int32} {L : Nat → Nat → Int64}
/-- what the reference has at hand -/
def tpM (I : Nat → Nat → Int32) (T : Nat → Int32) (n : Nat) : Prop := I 81 11 = Int32.ofNat n ∧ n ≤ 600 ∧ ∀ k, k < 600 → I 82 k = T k ∧ byt (T k)
theorem tpM_up {T : Nat → Int32} {n : Nat} {J : Nat → Nat → Int32} (h : tpM I T n) (e : ∀ a j, (a = 81 ∧ j = 11) ∨ a = 82 → J a j = I a j) : tpM J T n := ⟨(e 81 11 (by omega)).trans h.1, h.2.1, fun k hk => ⟨(e 82 k (by omega)).trans (h.2.2 k hk).1, (h.2.2 k hk).2⟩⟩
def sv (T : Nat → Int32) (n p : Nat) : Int32 := cond (decide (p < n)) (T p &&& 255) (-1)
theorem c_see {T : Nat → Int32} {n p : Nat} (h : tpM I T n) (hp : p ≤ n) (e : I 81 10 = Int32.ofNat p) : Cl X (d + 1) 176 [vr 81] (pm_mm al D I L) = some (some (vi (sv T n p)), pm_mm al D I L) := by
  obtain ⟨e11, hn, eT⟩ := h
  rw [Cl_s]
  show Rn X d co_Mo_see (0, [some (vr 81)], [], pm_mm al D I L) = _
  rw [sg_Mo_see_0, e11, e, n_dle (by omega) (by omega), n_in (by omega), dt (show p < 2400 by omega), cond_true, sg_Mo_see_28, sg_Mo_see_28, sv, n_tn (by omega)]
  by_cases c : p < n
  · rw [df (by omega), dt c, cond_false, cond_true, (eT p (by omega)).1]
  · rw [dt (by omega), df c, cond_true, cond_false]
theorem sv_toInt {T : Nat → Int32} {n p : Nat} (h : tpM I T n) (hp : p < n) : (sv T n p).toInt = if (T p).toInt < 0 then (T p).toInt + 256 else (T p).toInt := by
  rw [sv, dt hp, cond_true]; exact and255 (h.2.2 p (by have := h.2.1; omega)).2
theorem sv_eq {T : Nat → Int32} {n p c : Nat} (h : tpM I T n) (hc : c < 128) : decide (sv T n p = Int32.ofNat c) = (decide (p < n) && decide (T p = Int32.ofNat c)) := by
  have ec := n_ti (k := c) (by omega)
  by_cases hp : p < n
  · have hs := sv_toInt h hp
    have hb := byt_rg (h.2.2 p (by have := h.2.1; omega)).2
    rw [dt hp, Bool.true_and, decide_eq_decide, t_eq, t_eq, hs, ec]
    split <;> omega
  · rw [df hp, Bool.false_and, sv, df hp, cond_false]
    exact df (fun e => by rw [t_eq, ec, show (-1 : Int32).toInt = -1 from rfl] at e; omega)
theorem sv_in {T : Nat → Int32} {n p lo hi : Nat} (h : tpM I T n) (h1 : lo < 128) (h2 : hi < 128) (h0 : 0 < lo) : (if Int32.ofNat lo ≤ sv T n p ∧ sv T n p ≤ Int32.ofNat hi then (1 : Int32) else 0) = b01 (decide (p < n) && (!decide (T p < Int32.ofNat lo) && !decide (Int32.ofNat hi < T p))) := by
  have el := n_ti (k := lo) (by omega)
  have eh := n_ti (k := hi) (by omega)
  by_cases hp : p < n
  · have hs := sv_toInt h hp
    have hb := byt_rg (h.2.2 p (by have := h.2.1; omega)).2
    rw [dt hp, Bool.true_and]
    by_cases c1 : T p < Int32.ofNat lo
    · rw [dt c1, Bool.not_true, Bool.false_and, if_neg]; rfl
      rw [t_lt, el] at c1
      rw [t_le, t_le, el, eh, hs]; split <;> omega
    · rw [df c1, Bool.not_false, Bool.true_and]
      by_cases c2 : Int32.ofNat hi < T p
      · rw [dt c2, Bool.not_true, if_neg]; rfl
        rw [t_lt, eh] at c2
        rw [t_le, t_le, el, eh, hs]; split <;> omega
      · rw [df c2, Bool.not_false, if_pos]; rfl
        rw [t_lt, el] at c1
        rw [t_lt, eh] at c2
        rw [t_le, t_le, el, eh, hs]; split <;> omega
  · rw [df hp, Bool.false_and, if_neg]; rfl
    rw [sv, df hp, cond_false, t_le, t_le, el, show (-1 : Int32).toInt = -1 from rfl]; omega
theorem sv_ltr {T : Nat → Int32} {n p : Nat} (h : tpM I T n) : (if (97 : Int32) ≤ sv T n p ∧ sv T n p ≤ 122 then (1 : Int32) else 0) = b01 (decide (p < n) && ltr T p) := sv_in (lo := 97) (hi := 122) h (by omega) (by omega) (by omega)
theorem sv_dgi {T : Nat → Int32} {n p : Nat} (h : tpM I T n) : (if (48 : Int32) ≤ sv T n p ∧ sv T n p ≤ 57 then (1 : Int32) else 0) = b01 (decide (p < n) && dgi T p) := sv_in (lo := 48) (hi := 57) h (by omega) (by omega) (by omega)
/-- a word as it comes, byte by byte -/
def w64 (T : Nat → Int32) (b : Nat) : Nat → Int64
  | 0 => 0
  | m + 1 => (w64 T b m <<< ((8 : Int32).toInt64 &&& 63)) ||| (T (b + m) &&& 255).toInt64
def wv (T : Nat → Int32) (b m : Nat) : Int64 := cond (decide (m ≤ 8)) (w64 T b m) 0
def knd (T : Nat → Int32) (n b : Nat) : Nat := cond (decide (b < n)) (cond (ltr T b) 2 (cond (dgi T b) (cond (decide (te T n b - b ≤ 2)) 3 1) (cond (decide (T b = 59)) 4 1))) 0
/-- the token that begins at b was taken -/
def TK (T : Nat → Int32) (n b : Nat) (J : Nat → Nat → Int32) (M : Nat → Nat → Int64) : Prop := J 81 12 = Int32.ofNat b ∧ J 81 10 = Int32.ofNat (cond (decide (b < n)) (te T n b) n) ∧ J 81 13 = Int32.ofNat (knd T n b) ∧ (knd T n b = 3 → J 81 14 = Int32.ofNat (nvb T n b)) ∧ (knd T n b = 2 → M 81 15 = wv T b (te T n b - b))
theorem c_blanks {T : Nat → Int32} {n : Nat} {o1 o2 : Option pm_V} : ∀ (r p : Nat) (I : Nat → Nat → Int32), p + r = n → tpM I T n → I 81 10 = Int32.ofNat p → ∃ J, Rn X (d + 1) co_Mo_token (0, [some (vr 81), o1, o2], [], pm_mm al D I L) = ((Cl X (d + 1) 176 [vr 81] (pm_mm al D J L)).bind pm_ai).bind (fun r => Rn X (d + 1) co_Mo_token (43, [some (vr 81), o1, o2], [vi r.1], r.2)) ∧ (∀ a j, ¬ (a = 81 ∧ (j = 10 ∨ j = 12)) → J a j = I a j) ∧ J 81 10 = Int32.ofNat (spn (bl T) r p) ∧ J 81 12 = Int32.ofNat (spn (bl T) r p) := by
  intro r
  induction r with
  | zero =>
    intro p I hr h e
    have hn := h.2.1
    have s10 : decide (sv T n p = 10) = false := by rw [show decide (sv T n p = 10) = _ from sv_eq (c := 10) h (by omega), df (by omega), Bool.false_and]
    have s32 : decide (sv T n p = 32) = false := by rw [show decide (sv T n p = 32) = _ from sv_eq (c := 32) h (by omega), df (by omega), Bool.false_and]
    refine ⟨pm_up I 81 12 (I 81 10), ?_, fun a j hn => up_ne (by omega), by rw [up_ne (by omega), e, spn], by rw [up_eq, e, spn]⟩
    rw [sg_Mo_token_0, c_see h (by omega) e]
    simp only [Option.bind_some, pm_ai]
    rw [sg_Mo_token_4, s10, cond_false, c_see h (by omega) e]
    simp only [Option.bind_some, pm_ai]
    rw [sg_Mo_token_13, s32, cond_false]
  | succ r ih =>
    intro p I hr h e
    have hn := h.2.1
    have s10 : decide (sv T n p = 10) = decide (T p = 10) := by rw [show decide (sv T n p = 10) = _ from sv_eq (c := 10) h (by omega), dt (by omega), Bool.true_and]; rfl
    have s32 : decide (sv T n p = 32) = decide (T p = 32) := by rw [show decide (sv T n p = 32) = _ from sv_eq (c := 32) h (by omega), dt (by omega), Bool.true_and]; rfl
    have st : Rn X (d + 1) co_Mo_token (0, [some (vr 81), o1, o2], [], pm_mm al D I L) = cond (bl T p) (Rn X (d + 1) co_Mo_token (0, [some (vr 81), o1, o2], [], pm_mm al D (pm_up I 81 10 (Int32.ofNat (p + 1))) L)) (((Cl X (d + 1) 176 [vr 81] (pm_mm al D (pm_up I 81 12 (I 81 10)) L)).bind pm_ai).bind (fun r => Rn X (d + 1) co_Mo_token (43, [some (vr 81), o1, o2], [vi r.1], r.2))) := by
      rw [sg_Mo_token_0, c_see h (by omega) e]
      simp only [Option.bind_some, pm_ai]
      rw [sg_Mo_token_4, s10, c_see h (by omega) e]
      simp only [Option.bind_some, pm_ai]
      rw [sg_Mo_token_13, s32, sg_Mo_token_18, e, n_s, bl]
      cases decide (T p = 10) <;> cases decide (T p = 32) <;> simp only [cond_true, cond_false, Bool.true_or, Bool.false_or]
    rw [st, spn]
    cases hb : bl T p with
    | true =>
      obtain ⟨J, j1, j2, j3, j4⟩ := ih (p + 1) (pm_up I 81 10 (Int32.ofNat (p + 1))) (by omega) (tpM_up h (fun a j hh => up_ne (by omega))) up_eq
      exact ⟨J, by rw [cond_true]; exact j1, fun a j hh => by rw [j2 a j hh, up_ne (by omega)], by rw [cond_true]; exact j3, by rw [cond_true]; exact j4⟩
    | false =>
      exact ⟨pm_up I 81 12 (I 81 10), by rw [cond_false], fun a j hh => up_ne (by omega), by rw [up_ne (by omega), e, cond_false], by rw [up_eq, e, cond_false]⟩
theorem c_letters {T : Nat → Int32} {n b : Nat} : ∀ (r m : Nat) (o1 : Option pm_V) (I : Nat → Nat → Int32) (L : Nat → Nat → Int64), b + m + r = n → tpM I T n → I 81 10 = Int32.ofNat (b + m) → L 81 15 = w64 T b m → (∀ k, k < m → ltr T (b + k) = true) → ∃ J M, Rn X (d + 1) co_Mo_token (74, [some (vr 81), o1, some (vi (Int32.ofNat m))], [], pm_mm al D I L) = some (none, pm_mm al D J M) ∧ (∀ a j, ¬ (a = 81 ∧ (j = 10 ∨ j = 13)) → J a j = I a j) ∧ (∀ a j, ¬ (a = 81 ∧ j = 15) → M a j = L a j) ∧ J 81 10 = Int32.ofNat (spn (ltr T) r (b + m)) ∧ J 81 13 = Int32.ofNat 2 ∧ M 81 15 = wv T b (spn (ltr T) r (b + m) - b) := by
  intro r
  have fin : ∀ (m : Nat) (o1 : Option pm_V) (I : Nat → Nat → Int32) (L : Nat → Nat → Int64), b + m ≤ n → tpM I T n → I 81 10 = Int32.ofNat (b + m) → L 81 15 = w64 T b m → (decide (b + m < n) && ltr T (b + m)) = false → ∃ J M, Rn X (d + 1) co_Mo_token (74, [some (vr 81), o1, some (vi (Int32.ofNat m))], [], pm_mm al D I L) = some (none, pm_mm al D J M) ∧ (∀ a j, ¬ (a = 81 ∧ (j = 10 ∨ j = 13)) → J a j = I a j) ∧ (∀ a j, ¬ (a = 81 ∧ j = 15) → M a j = L a j) ∧ J 81 10 = Int32.ofNat (b + m) ∧ J 81 13 = Int32.ofNat 2 ∧ M 81 15 = wv T b (b + m - b) := fun m o1 I L hm h e eL hs => by
    have hn := h.2.1
    refine ⟨pm_up I 81 13 2, pm_up L 81 15 (wv T b m), ?_, fun a j hh => up_ne (by omega), fun a j hh => up_ne (by omega), by rw [up_ne (by omega)]; exact e, up_eq, by rw [up_eq, show b + m - b = m by omega]⟩
    rw [sg_Mo_token_74, c_see h hm e]
    simp only [Option.bind_some, pm_ai]
    rw [sg_Mo_token_78, c_in, sv_ltr h, hs]
    simp only [Option.bind_some, pm_ai]
    rw [sg_Mo_token_85, show decide (b01 false = 0) = true from rfl, cond_true, eL, show decide (Int32.ofNat m ≤ 8) = decide (m ≤ 8) from n_dle (b := 8) (by omega) (by omega), sg_Mo_token_136, sg_Mo_token_136, sg_Mo_token_266, sg_Mo_token_266, wv]
    cases decide (m ≤ 8) <;> simp only [cond_true, cond_false]
  induction r with
  | zero =>
    intro m o1 I L hr h e eL hl
    rw [spn]
    exact fin m o1 I L (by omega) h e eL (by rw [df (by omega), Bool.false_and])
  | succ r ih =>
    intro m o1 I L hr h e eL hl
    have hn := h.2.1
    rw [spn]
    cases hc : ltr T (b + m) with
    | false => rw [cond_false]; exact fin m o1 I L (by omega) h e eL (by rw [hc, Bool.and_false])
    | true =>
      rw [cond_true]
      obtain ⟨J, M, j1, j2, j3, j4, j5, j6⟩ := ih (m + 1) (pm_nl o1) (pm_up I 81 10 (Int32.ofNat (b + m + 1))) (pm_up L 81 15 (w64 T b (m + 1))) (by omega) (tpM_up h (fun a j hh => up_ne (by omega))) up_eq up_eq (fun k hk => by
        by_cases ek : k = m
        · rw [ek]; exact hc
        · exact hl k (by omega))
      refine ⟨J, M, ?_, fun a j hh => by rw [j2 a j hh, up_ne (by omega)], fun a j hh => by rw [j3 a j hh, up_ne hh], j4, j5, j6⟩
      rw [sg_Mo_token_74, c_see h (by omega) e]
      simp only [Option.bind_some, pm_ai]
      rw [sg_Mo_token_78, c_in, sv_ltr h, dt (show b + m < n by omega), hc, Bool.and_self]
      simp only [Option.bind_some, pm_ai]
      rw [sg_Mo_token_85, show decide (b01 true = 0) = false from rfl, cond_false, c_see h (by omega) e]
      simp only [Option.bind_some, pm_ai]
      rw [sg_Mo_token_100, e, n_s, n_s, eL, sv, dt (show b + m < n by omega), cond_true]
      exact j1
theorem c_digits {T : Nat → Int32} {n b : Nat} : ∀ (r m : Nat) (o1 : Option pm_V) (I : Nat → Nat → Int32), b + m + r = n → tpM I T n → I 81 10 = Int32.ofNat (b + m) → I 81 14 = Int32.ofNat (nvl T b (min m 2)) → nvl T b (min m 2) < 100 → (∀ k, k < m → dgi T (b + k) = true) → ∃ J, Rn X (d + 1) co_Mo_token (163, [some (vr 81), o1, some (vi (Int32.ofNat m))], [], pm_mm al D I L) = some (none, pm_mm al D J L) ∧ (∀ a j, ¬ (a = 81 ∧ (j = 10 ∨ j = 13 ∨ j = 14)) → J a j = I a j) ∧ J 81 10 = Int32.ofNat (spn (dgi T) r (b + m)) ∧ J 81 13 = Int32.ofNat (cond (decide (spn (dgi T) r (b + m) - b ≤ 2)) 3 1) ∧ J 81 14 = Int32.ofNat (nvl T b (min (spn (dgi T) r (b + m) - b) 2)) := by
  intro r
  have fin : ∀ (m : Nat) (o1 : Option pm_V) (I : Nat → Nat → Int32), b + m ≤ n → tpM I T n → I 81 10 = Int32.ofNat (b + m) → I 81 14 = Int32.ofNat (nvl T b (min m 2)) → (decide (b + m < n) && dgi T (b + m)) = false → ∃ J, Rn X (d + 1) co_Mo_token (163, [some (vr 81), o1, some (vi (Int32.ofNat m))], [], pm_mm al D I L) = some (none, pm_mm al D J L) ∧ (∀ a j, ¬ (a = 81 ∧ (j = 10 ∨ j = 13 ∨ j = 14)) → J a j = I a j) ∧ J 81 10 = Int32.ofNat (b + m) ∧ J 81 13 = Int32.ofNat (cond (decide (b + m - b ≤ 2)) 3 1) ∧ J 81 14 = Int32.ofNat (nvl T b (min (b + m - b) 2)) := fun m o1 I hm h e e14 hs => by
    have hn := h.2.1
    refine ⟨pm_up I 81 13 (Int32.ofNat (cond (decide (m ≤ 2)) 3 1)), ?_, fun a j hh => up_ne (by omega), by rw [up_ne (by omega)]; exact e, by rw [up_eq, show b + m - b = m by omega], by rw [up_ne (by omega), e14, show b + m - b = m by omega]⟩
    rw [sg_Mo_token_163, c_see h hm e]
    simp only [Option.bind_some, pm_ai]
    rw [sg_Mo_token_167, c_in, sv_dgi h, hs]
    simp only [Option.bind_some, pm_ai]
    rw [sg_Mo_token_174, show decide (b01 false = 0) = true from rfl, cond_true, show decide (Int32.ofNat m ≤ 2) = decide (m ≤ 2) from n_dle (b := 2) (by omega) (by omega), sg_Mo_token_235, sg_Mo_token_235, sg_Mo_token_266, sg_Mo_token_266]
    cases decide (m ≤ 2) <;> simp only [cond_true, cond_false] <;> rfl
  induction r with
  | zero =>
    intro m o1 I hr h e e14 h100 hl
    rw [spn]
    exact fin m o1 I (by omega) h e e14 (by rw [df (by omega), Bool.false_and])
  | succ r ih =>
    intro m o1 I hr h e e14 h100 hl
    have hn := h.2.1
    rw [spn]
    cases hc : dgi T (b + m) with
    | false => rw [cond_false]; exact fin m o1 I (by omega) h e e14 (by rw [hc, Bool.and_false])
    | true =>
      rw [cond_true]
      obtain ⟨d1, d2, d3⟩ := dgi_rg hc
      have hl' : ∀ k, k < m + 1 → dgi T (b + k) = true := fun k hk => by
        by_cases ek : k = m
        · rw [ek]; exact hc
        · exact hl k (by omega)
      have st : Rn X (d + 1) co_Mo_token (163, [some (vr 81), o1, some (vi (Int32.ofNat m))], [], pm_mm al D I L) = Rn X (d + 1) co_Mo_token (163, [some (vr 81), pm_nl o1, some (vi (Int32.ofNat (m + 1)))], [], pm_mm al D (pm_up (pm_up I 81 14 (Int32.ofNat (nvl T b (min (m + 1) 2)))) 81 10 (Int32.ofNat (b + m + 1))) L) := by
        rw [sg_Mo_token_163, c_see h (by omega) e]
        simp only [Option.bind_some, pm_ai]
        rw [sg_Mo_token_167, c_in, sv_dgi h, dt (show b + m < n by omega), hc, Bool.and_self]
        simp only [Option.bind_some, pm_ai]
        rw [sg_Mo_token_174, show decide (b01 true = 0) = false from rfl, cond_false, show decide ((2 : Int32) ≤ Int32.ofNat m) = decide (2 ≤ m) from n_dle (a := 2) (by omega) (by omega), c_see h (by omega) e]
        simp only [Option.bind_some, pm_ai]
        rw [sg_Mo_token_194, sg_Mo_token_205, sg_Mo_token_205, e14, n_s]
        have eu : ∀ y, pm_up I 81 14 y 81 10 = Int32.ofNat (b + m) := fun y => by rw [up_ne (by omega)]; exact e
        by_cases c2 : 2 ≤ m
        · rw [dt c2, cond_true, show min (m + 1) 2 = min m 2 by omega, e, n_s]
        · have hsv : sv T n (b + m) = T (b + m) := by
            rw [t_eq, sv_toInt h (by omega), if_neg]
            have := n_ti (k := (T (b + m)).toNatClampNeg) (by omega)
            rw [← d1] at this; omega
          have e10 : (10 : Int32) * Int32.ofNat (nvl T b (min m 2)) = Int32.ofNat (nvl T b (min m 2)) * 10 := Int32.mul_comm _ _
          rw [Nat.min_eq_left (show m ≤ 2 by omega)] at e10 h100 ⊢
          rw [df c2, cond_false, hsv, e10, nvl_s hc h100, Nat.min_eq_left (show m + 1 ≤ 2 by omega), e, n_s]
      have h100' : nvl T b (min (m + 1) 2) < 100 := by
        by_cases c2 : 2 ≤ m
        · rw [show min (m + 1) 2 = min m 2 by omega]; exact h100
        · by_cases c1 : m = 0
          · subst c1; show nvl T b 1 < 100; rw [nvl, nvl]; omega
          · have : m = 1 := by omega
            subst this
            obtain ⟨_, f2, f3⟩ := dgi_rg (hl 0 (by omega))
            rw [Nat.add_zero] at f2 f3
            show nvl T b 2 < 100
            rw [nvl, nvl, nvl, Nat.add_zero]; omega
      obtain ⟨J, j1, j2, j3, j4, j5⟩ := ih (m + 1) (pm_nl o1) (pm_up (pm_up I 81 14 (Int32.ofNat (nvl T b (min (m + 1) 2)))) 81 10 (Int32.ofNat (b + m + 1))) (by omega) (tpM_up h (fun a j hh => by rw [up_ne (by omega), up_ne (by omega)])) up_eq (by rw [up_ne (by omega), up_eq]) h100' hl'
      exact ⟨J, st.trans j1, fun a j hh => by rw [j2 a j hh, up_ne (by omega), up_ne (by omega)], j3, j4, j5⟩
theorem spn_s {P : Nat → Bool} {n b : Nat} (hb : b < n) (h : P b = true) : spn P (n - b) b = spn P (n - (b + 1)) (b + 1) := by
  rw [show n - b = (n - (b + 1)) + 1 by omega, spn, h, cond_true]
theorem c_token {T : Nat → Int32} {n p : Nat} (h : tpM I T n) (hp : p ≤ n) (e : I 81 10 = Int32.ofNat p) : ∃ J M, Cl X (d + 2) 177 [vr 81] (pm_mm al D I L) = some (none, pm_mm al D J M) ∧ (∀ a j, ¬ (a = 81 ∧ (j = 10 ∨ j = 12 ∨ j = 13 ∨ j = 14)) → J a j = I a j) ∧ (∀ a j, ¬ (a = 81 ∧ j = 15) → M a j = L a j) ∧ TK T n (sk T n p) J M := by
  rw [Cl_s]
  show ∃ J M, Rn X (d + 1) co_Mo_token (0, [some (vr 81), none, none], [], pm_mm al D I L) = _ ∧ _
  have hn := h.2.1
  obtain ⟨K, k1, k2, k3, k4⟩ := c_blanks (X := X) (d := d) (al := al) (D := D) (L := L) (o1 := none) (o2 := none) (n - p) p I (by omega) h e
  have hK : tpM K T n := tpM_up h (fun a j hh => k2 a j (by omega))
  have hsk := sk_rg (T := T) hp
  have es : spn (bl T) (n - p) p = sk T n p := rfl
  rw [es] at k3 k4
  generalize sk T n p = b at k3 k4 hsk ⊢
  rw [k1, c_see hK hsk.2 k3]
  simp only [Option.bind_some, pm_ai]
  rw [sg_Mo_token_43]
  by_cases hb : b < n
  · obtain ⟨t1, t2⟩ := te_rg (T := T) hb
    have h0 : decide ((0 : Int32) ≤ sv T n b) = true := dt (by
      have h1 := sv_toInt hK hb
      have h2 := byt_rg (hK.2.2 b (by omega)).2
      rw [t_le, show (0 : Int32).toInt = 0 from rfl, h1]; split <;> omega)
    rw [h0, cond_true, c_in, sv_ltr hK, dt hb, Bool.true_and]
    simp only [Option.bind_some, pm_ai]
    rw [sg_Mo_token_71, b01_ne, c_in, sv_dgi hK, dt hb, Bool.true_and]
    simp only [Option.bind_some, pm_ai]
    rw [sg_Mo_token_155, b01_ne]
    simp only [TK, knd, dt hb, cond_true]
    cases hl : ltr T b with
    | true =>
      obtain ⟨J, M, j1, j2, j3, j4, j5, j6⟩ := c_letters (X := X) (d := d) (al := al) (D := D) (T := T) (n := n) (b := b) (n - b) 0 (some (vi (sv T n b))) K (pm_up L 81 15 0) (by omega) hK k3 up_eq (fun k hk => absurd hk (Nat.not_lt_zero k))
      have ete : spn (ltr T) (n - b) b = te T n b := by rw [te, hl, cond_true, spn_s hb hl]
      rw [Nat.add_zero, ete] at j4 j6
      refine ⟨J, M, by rw [Bool.not_true, cond_false]; exact j1, fun a j hh => by rw [j2 a j (by omega), k2 a j (by omega)], fun a j hh => by rw [j3 a j hh, up_ne hh], (j2 _ _ (by omega)).trans k4, j4, j5, fun c => (by cases c), fun _ => j6⟩
    | false =>
      rw [Bool.not_false, cond_true, cond_false]
      cases hd : dgi T b with
      | true =>
        obtain ⟨J, j1, j2, j3, j4, j5⟩ := c_digits (X := X) (d := d) (al := al) (D := D) (L := pm_up L 81 15 0) (T := T) (n := n) (b := b) (n - b) 0 (some (vi (sv T n b))) (pm_up K 81 14 0) (by omega) (tpM_up hK (fun a j hh => up_ne (by omega))) (by rw [up_ne (by omega)]; exact k3) up_eq (by show 0 < 100; omega) (fun k hk => absurd hk (Nat.not_lt_zero k))
        have ete : spn (dgi T) (n - b) b = te T n b := by rw [te, hl, hd, cond_false, cond_true, spn_s hb hd]
        rw [Nat.add_zero, ete] at j3 j4 j5
        refine ⟨J, pm_up L 81 15 0, by rw [Bool.not_true, cond_false]; exact j1, fun a j hh => by rw [j2 a j (by omega), up_ne (by omega), k2 a j (by omega)], fun a j hh => up_ne hh, by rw [j2 _ _ (by omega), up_ne (by omega)]; exact k4, j3, by rw [cond_true]; exact j4, fun c => ?_, fun c => ?_⟩
        · rw [cond_true] at c
          have hle : te T n b - b ≤ 2 := by
            by_cases q : te T n b - b ≤ 2
            · exact q
            · rw [df q, cond_false] at c; cases c
          rw [j5, nvb, Nat.min_eq_left hle]
        · rw [cond_true] at c
          cases h9 : decide (te T n b - b ≤ 2) <;> rw [h9] at c <;> cases c
      | false =>
        have ete : te T n b = b + 1 := by rw [te, hl, hd, cond_false, cond_false]
        have s59 : decide (sv T n b = 59) = decide (T b = 59) := by rw [show decide (sv T n b = 59) = _ from sv_eq (c := 59) hK (by omega), dt hb, Bool.true_and]; rfl
        rw [Bool.not_false, cond_true, s59, k3, n_s, sg_Mo_token_263, sg_Mo_token_263, sg_Mo_token_266, sg_Mo_token_266, cond_false]
        refine ⟨pm_up (pm_up K 81 10 (Int32.ofNat (b + 1))) 81 13 (Int32.ofNat (cond (decide (T b = 59)) 4 1)), pm_up L 81 15 0, ?_, fun a j hh => by rw [up_ne (by omega), up_ne (by omega), k2 a j (by omega)], fun a j hh => up_ne hh, by rw [up_ne (by omega), up_ne (by omega)]; exact k4, by rw [up_ne (by omega), up_eq, ete], up_eq, fun c => ?_, fun c => ?_⟩
        · cases decide (T b = 59) <;> simp only [cond_true, cond_false] <;> rfl
        · cases h9 : decide (T b = 59) <;> rw [h9] at c <;> cases c
        · cases h9 : decide (T b = 59) <;> rw [h9] at c <;> cases c
  · have h0 : decide ((0 : Int32) ≤ sv T n b) = false := by rw [sv, df hb, cond_false]; rfl
    rw [h0, cond_false, sg_Mo_token_266]
    simp only [TK, knd, df hb, cond_false]
    refine ⟨_, _, rfl, fun a j hh => by rw [up_ne (by omega), k2 a j (by omega)], fun a j hh => up_ne hh, by rw [up_ne (by omega)]; exact k4, by rw [up_ne (by omega), k3, show b = n by omega], up_eq, fun c => (by cases c), fun c => (by cases c)⟩
end
