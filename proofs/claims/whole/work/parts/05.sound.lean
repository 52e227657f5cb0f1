/-! SOUNDNESS, 1: what a machine's state is in the heap -/
/-- what a run stands in: the heap's size at the law's start; all cells that will have been made; the addresses of what isn't made here (900 the script, 901 .. constant rows, 911 .. texts); the classes' numbers; the arrays' classes by their kinds; the script; the texts' own rows -/
abbrev sn_E : Type := Nat × List Nat × (Nat → Nat) × va_G × (Nat → ClassId) × (Nat × (Nat → Int32)) × (Nat → Nat)
def sn_ix (q : Nat) : List Nat → Nat
  | [] => 0
  | a :: l => cond (Nat.beq a q) 0 (sn_ix q l + 1)
theorem sn_ix_get {q : Nat} : ∀ {l : List Nat}, q ∈ l → l[sn_ix q l]? = some q
  | [], h => by cases h
  | a :: l, h => by
    unfold sn_ix
    cases hb : Nat.beq a q with
    | true => simp [Nat.eq_of_beq_eq_true hb]
    | false =>
      have hne : ¬ a = q := fun e => by rw [e, Nat.beq_refl] at hb; cases hb
      rcases List.mem_cons.mp h with e | e
      · exact absurd e.symm hne
      · simpa using sn_ix_get e
theorem sn_ix_lt {q : Nat} {l : List Nat} (h : q ∈ l) : sn_ix q l < l.length := (List.getElem?_eq_some_iff.mp (sn_ix_get h)).1
theorem sn_ix_app {q : Nat} : ∀ {l : List Nat} (k : List Nat), q ∈ l → sn_ix q (l ++ k) = sn_ix q l
  | [], _, h => by cases h
  | a :: l, k, h => by
    show cond _ _ _ = cond _ _ _
    cases hb : Nat.beq a q with
    | true => rfl
    | false =>
      have hne : ¬ a = q := fun e => by rw [e, Nat.beq_refl] at hb; cases hb
      rcases List.mem_cons.mp h with e | e
      · exact absurd e.symm hne
      · exact congrArg (· + 1) (sn_ix_app k e)
theorem sn_ix_new {q : Nat} : ∀ {l : List Nat} (k : List Nat), q ∉ l → sn_ix q (l ++ q :: k) = l.length
  | [], k, _ => by simp [sn_ix]
  | a :: l, k, h => by
    show cond _ _ _ = _
    have hne : Nat.beq a q = false := by
      cases hb : Nat.beq a q with
      | false => rfl
      | true => exact absurd (List.mem_cons.mpr (Or.inl (Nat.eq_of_beq_eq_true hb).symm)) h
    rw [hne]
    exact congrArg (· + 1) (sn_ix_new k (fun e => h (List.mem_cons_of_mem _ e)))
def sn_ad (E : sn_E) (q : Nat) : Nat := cond (Nat.ble 900 q) (E.2.2.1 q) (E.1 + sn_ix q E.2.1)
def sn_rf (E : sn_E) (q : Nat) : Value := cond (Nat.beq q 0) .null (.ref (sn_ad E q))
def sn_cv (E : sn_E) (v : pm_V) : Value := match v with
  | Sum.inl x => .int x
  | Sum.inr (Sum.inl x) => .long x
  | Sum.inr (Sum.inr q) => sn_rf E q
def sn_fv (E : sn_E) (V : pm_M) (c a k : Nat) : Value := match pm_ft c k with
  | 2 => sn_rf E (V.2.2.1 a k)
  | 1 => .long (V.2.2.2.2 a k)
  | _ => .int (V.2.2.2.1 a k)
def sn_rw (E : sn_E) (N : Nat → Nat) (j : Nat) : Option Nat := cond (Nat.beq (N j) 0) none (some (sn_ad E (N j)))
def sn_en (E : sn_E) (V : pm_M) (a : Nat) : va_E :=
  cond (Nat.ble 100 (pm_kd a).1 || Nat.beq (pm_kd a).1 6) (.inl (E.2.2.2.2.1 (pm_kd a).1, (pm_kd a).2, .inr (.inr (.inr (.inr (sn_rw E (V.2.2.1 a)))))))
  (cond (Nat.ble 10 (pm_kd a).1) (.inr ((pm_kd a).1 - 10, (List.range (pm_kd a).2).map (sn_fv E V ((pm_kd a).1 - 10) a)))
  (cond (Nat.beq (pm_kd a).1 4) (.inl (E.2.2.2.2.1 (pm_kd a).1, (pm_kd a).2, .inr (.inl (V.2.2.2.2 a))))
  (.inl (E.2.2.2.2.1 (pm_kd a).1, (pm_kd a).2, .inl (V.2.2.2.1 a)))))
/-- the memory V stands in the heap H -/
def sn_S (E : sn_E) (V : pm_M) (H : Heap) : Prop := H.size = E.1 + V.1.length ∧ V.1 <+: E.2.1 ∧ (∀ a, V.2.1 a = true ↔ a ∈ V.1) ∧ (∀ a ∈ V.1, va_at E.2.2.2.1 vwCl (sn_ad E a, sn_en E V a) H) ∧ (∀ a, V.2.1 a = false → ∀ j, V.2.2.2.1 a j = 0 ∧ V.2.2.2.2 a j = 0 ∧ V.2.2.1 a j = 0) ∧ (∀ a j, (pm_kd a).1 = 2 → fits .byte (.int (V.2.2.2.1 a j)) = true) ∧ (∀ a ∈ V.1, 1 ≤ a ∧ a ≤ 899) ∧ V.1.Nodup
def sn_tt (l : List Nat) : Nat := (l.map (fun a => (pm_kd a).2)).sum
def sn_lv (E : sn_E) : Nat → pm_L → List (Nat × Value)
  | _, [] => []
  | k, none :: t => sn_lv E (k + 1) t
  | k, some v :: t => (k, sn_cv E v) :: sn_lv E (k + 1) t
theorem sn_lv_iff {E : sn_E} {q : Nat × Value} : ∀ {ls : pm_L} {k : Nat}, q ∈ sn_lv E k ls ↔ ∃ i v, pm_get ls i = some v ∧ q = (k + i, sn_cv E v)
  | [], k => by simp [sn_lv, pm_get]
  | none :: t, k => by
    show q ∈ sn_lv E (k + 1) t ↔ _
    rw [sn_lv_iff]
    constructor
    · rintro ⟨i, v, h1, h2⟩
      exact ⟨i + 1, v, h1, by rw [h2]; congr 1; omega⟩
    · rintro ⟨i, v, h1, h2⟩
      cases i with
      | zero => cases h1
      | succ i => exact ⟨i, v, h1, by rw [h2]; congr 1; omega⟩
  | some w :: t, k => by
    show q ∈ (k, sn_cv E w) :: sn_lv E (k + 1) t ↔ _
    rw [List.mem_cons, sn_lv_iff]
    constructor
    · rintro (h | ⟨i, v, h1, h2⟩)
      · exact ⟨0, w, rfl, h⟩
      · exact ⟨i + 1, v, h1, by rw [h2]; congr 1; omega⟩
    · rintro ⟨i, v, h1, h2⟩
      cases i with
      | zero =>
        cases h1
        exact Or.inl h2
      | succ i => exact Or.inr ⟨i, v, h1, by rw [h2]; congr 1; omega⟩
theorem sn_at {E : sn_E} {arr : Array Slot} {nL : Nat} {ls : pm_L} (h : lv_has arr nL (sn_lv E 0 ls)) {k : Nat} {v : pm_V} (hk : pm_get ls k = some v) : arr[k]? = some (.val (sn_cv E v)) := by
  have := h.2.2 (k, sn_cv E v) (sn_lv_iff.mpr ⟨k, v, hk, by simp⟩)
  exact this
theorem pm_get_sto {v : pm_V} : ∀ {ls : pm_L} {k i : Nat} {w : pm_V}, pm_get (pm_sto ls k v) i = some w → (i = k ∧ w = v) ∨ (i ≠ k ∧ pm_get ls i = some w ∧ (i + 1 = k → ∀ x, w ≠ vl x))
  | [], k, i, w, h => by simp [pm_sto, pm_get] at h
  | o :: t, 0, i, w, h => by
    cases i with
    | zero =>
      have h' : some v = some w := h
      exact Or.inl ⟨rfl, (Option.some.inj h').symm⟩
    | succ i => exact Or.inr ⟨by omega, h, fun e => by omega⟩
  | o :: t, 1, i, w, h => by
    cases i with
    | zero =>
      have h' : pm_nl o = some w := h
      refine Or.inr ⟨by omega, ?_, fun _ x e => ?_⟩
      · show o = some w
        unfold pm_nl at h'
        split at h'
        · cases h'
        · exact h'
      · subst e
        unfold pm_nl at h'
        split at h'
        · cases h'
        · rename_i hz
          exact hz _ h'
    | succ i =>
      have h' : pm_get (pm_s0 v t) i = some w := h
      cases t with
      | nil => simp [pm_s0, pm_get] at h'
      | cons b t =>
        cases i with
        | zero =>
          have h2 : some v = some w := h'
          exact Or.inl ⟨rfl, (Option.some.inj h2).symm⟩
        | succ i => exact Or.inr ⟨by omega, h', fun e => by omega⟩
  | o :: t, k + 2, i, w, h => by
    cases i with
    | zero => exact Or.inr ⟨by omega, h, fun e => by omega⟩
    | succ i =>
      have h' : pm_get (pm_sto t (k + 1) v) i = some w := h
      rcases pm_get_sto h' with ⟨e1, e2⟩ | ⟨e1, e2, e3⟩
      · exact Or.inl ⟨by omega, e2⟩
      · exact Or.inr ⟨by omega, e2, fun e => e3 (by omega)⟩
theorem pm_get_kil : ∀ {ls : pm_L} {k i : Nat} {w : pm_V}, pm_get (pm_kil ls k) i = some w → i ≠ k ∧ pm_get ls i = some w
  | [], k, i, w, h => by simp [pm_kil, pm_get] at h
  | o :: t, 0, i, w, h => by
    cases i with
    | zero => cases h
    | succ i => exact ⟨by omega, h⟩
  | o :: t, k + 1, i, w, h => by
    cases i with
    | zero => exact ⟨by omega, h⟩
    | succ i =>
      obtain ⟨h1, h2⟩ := pm_get_kil (ls := t) (k := k) (i := i) (w := w) h
      exact ⟨by omega, h2⟩
theorem sn_cat_i {E : sn_E} {x : Int32} : (sn_cv E (vi x)).category = 1 := rfl
theorem sn_cat_r {E : sn_E} {q : Nat} : (sn_cv E (vr q)).category = 1 := by
  show (sn_rf E q).category = 1
  unfold sn_rf
  cases Nat.beq q 0 <;> rfl
theorem sn_cat2 {E : sn_E} {w : pm_V} (h : (sn_cv E w).category = 2) : ∃ x, w = vl x := by
  rcases w with x | x | q
  · exact absurd h (by rw [sn_cat_i]; decide)
  · exact ⟨x, rfl⟩
  · exact absurd h (by rw [sn_cat_r]; decide)
theorem sn_sub {arr : Array Slot} {nL : Nat} {l l' : List (Nat × Value)} (h : lv_has arr nL l) (hs : ∀ q ∈ l', q ∈ l) : lv_has arr nL l' := ⟨h.1, h.2.1, fun q hq => h.2.2 q (hs q hq)⟩
/-- a stored value of one word -/
theorem sn_sto1 {E : sn_E} {ls : pm_L} {k : Nat} {v : pm_V} : ∀ q ∈ sn_lv E 0 (pm_sto ls k v), q ∈ (k, sn_cv E v) :: (sn_lv E 0 ls).filter (fun q => !(q.1 == k) && !(q.1 + 1 == k && q.2.category == 2)) := by
  intro q hq
  obtain ⟨i, w, h1, h2⟩ := sn_lv_iff.mp hq
  rcases pm_get_sto h1 with ⟨e1, e2⟩ | ⟨e1, e2, e3⟩
  · rw [h2, e1, e2, Nat.zero_add]
    exact List.mem_cons_self
  · refine List.mem_cons_of_mem _ (List.mem_filter.mpr ⟨sn_lv_iff.mpr ⟨i, w, e2, h2⟩, ?_⟩)
    rw [h2]
    simp only [Nat.zero_add, Bool.and_eq_true, Bool.not_eq_true', beq_eq_false_iff_ne, ne_eq, Bool.and_eq_false_iff]
    refine ⟨e1, ?_⟩
    by_cases z : i + 1 = k
    · right
      intro hc
      obtain ⟨x, hx⟩ := sn_cat2 hc
      exact e3 z x hx
    · exact Or.inl z
theorem sn_sto2 {E : sn_E} {ls : pm_L} {k : Nat} {x : Int64} : ∀ q ∈ sn_lv E 0 (pm_kil (pm_sto ls k (vl x)) (k + 1)), q ∈ (k, Value.long x) :: (sn_lv E 0 ls).filter (fun q => !(q.1 == k) && (!(q.1 == k + 1) && !(q.1 + 1 == k && q.2.category == 2))) := by
  intro q hq
  obtain ⟨i, w, h1, h2⟩ := sn_lv_iff.mp hq
  obtain ⟨h0, h1⟩ := pm_get_kil h1
  rcases pm_get_sto h1 with ⟨e1, e2⟩ | ⟨e1, e2, e3⟩
  · rw [h2, e1, e2, Nat.zero_add]
    exact List.mem_cons_self
  · refine List.mem_cons_of_mem _ (List.mem_filter.mpr ⟨sn_lv_iff.mpr ⟨i, w, e2, h2⟩, ?_⟩)
    rw [h2]
    simp only [Nat.zero_add, Bool.and_eq_true, Bool.not_eq_true', beq_eq_false_iff_ne, ne_eq, Bool.and_eq_false_iff]
    refine ⟨e1, h0, ?_⟩
    by_cases z : i + 1 = k
    · right
      intro hc
      obtain ⟨x, hx⟩ := sn_cat2 hc
      exact e3 z x hx
    · exact Or.inl z
/-- addresses -/
theorem sn_ad_lt {E : sn_E} {V : pm_M} {H : Heap} (h : sn_S E V H) {a : Nat} (ha : a ∈ V.1) : sn_ad E a = E.1 + sn_ix a V.1 ∧ sn_ix a V.1 < V.1.length := by
  obtain ⟨k, hk⟩ := h.2.1
  have h2 := (h.2.2.2.2.2.2.1 a ha).2
  refine ⟨?_, sn_ix_lt ha⟩
  unfold sn_ad
  have hb : Nat.ble 900 a = false := by
    cases hb : Nat.ble 900 a with
    | false => rfl
    | true => exact absurd (Nat.le_of_ble_eq_true hb) (by omega)
  rw [hb]
  show E.1 + sn_ix a E.2.1 = _
  rw [← hk, sn_ix_app k ha]
theorem sn_ad_inj {E : sn_E} {V : pm_M} {H : Heap} (h : sn_S E V H) {a b : Nat} (ha : a ∈ V.1) (hb : b ∈ V.1) (he : sn_ad E a = sn_ad E b) : a = b := by
  rw [(sn_ad_lt h ha).1, (sn_ad_lt h hb).1] at he
  have h1 := sn_ix_get ha
  have h2 := sn_ix_get hb
  rw [show sn_ix a V.1 = sn_ix b V.1 by omega] at h1
  exact Option.some.inj (h1.symm.trans h2)
theorem sn_rf_ne {E : sn_E} {q : Nat} (h : q ≠ 0) : sn_rf E q = .ref (sn_ad E q) := by
  unfold sn_rf
  cases hb : Nat.beq q 0 with
  | false => rfl
  | true => exact absurd (Nat.eq_of_beq_eq_true hb) h
