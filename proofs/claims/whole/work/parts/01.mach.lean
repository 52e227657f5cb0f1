/-! THE PURE MACHINE: values, frames, a memory of cells by number; a step as a tree; runs by fuel; their limit -/
abbrev pm_V : Type := Int32 ⊕ (Int64 ⊕ Nat)
abbrev vi (x : Int32) : pm_V := Sum.inl x
abbrev vl (x : Int64) : pm_V := Sum.inr (Sum.inl x)
abbrev vr (q : Nat) : pm_V := Sum.inr (Sum.inr q)
abbrev pm_L : Type := List (Option pm_V)
/-- the memory: the cells made so far, in their order; which stand; references; ints; longs: by cell and slot -/
abbrev pm_M : Type := (List Nat) × (Nat → Bool) × (Nat → Nat → Nat) × (Nat → Nat → Int32) × (Nat → Nat → Int64)
abbrev pm_S : Type := Nat × pm_L × List pm_V × pm_M
abbrev pm_R : Type := Option pm_V × pm_M
/-- an instruction as decoded, its length, three numbers, an int, a long, a switch's cases -/
abbrev pm_O : Type := Instr × Nat × Nat × Nat × Nat × Int32 × Int64 × List (Int32 × Nat)
abbrev pm_C : Type := Nat → Option pm_O
/-- a step: a guard, and then one of several frames, or a call (method, arguments, its answer's kind, the next place, locals, stack), or the end -/
abbrev pm_T : Type := Bool × (List (Bool × pm_S) ⊕ ((Nat × List pm_V × pm_M × Nat × Nat × pm_L × List pm_V) ⊕ pm_R))
abbrev pm_K : Type := Nat → List pm_V → pm_M → Option pm_R
def pm_up {α : Type} (f : Nat → Nat → α) (a j : Nat) (x : α) : Nat → Nat → α := fun b k => if b = a ∧ k = j then x else f b k
def pm_ups {α : Type} (f : Nat → Nat → α) (a : Nat) (g : Nat → α) : Nat → Nat → α := fun b k => if b = a then g k else f b k
def pm_in (i : Int32) (n : Nat) : Bool := decide (0 ≤ i) && decide (i.toNatClampNeg < n)
def pm_alts (k : pm_S → Option pm_R) : List (Bool × pm_S) → Option pm_R
  | [] => none
  | (c, s) :: l => cond c (k s) (pm_alts k l)
def pm_ai (r : pm_R) : Option (Int32 × pm_M) := match r with
  | (some (Sum.inl x), V) => some (x, V)
  | _ => none
def pm_al (r : pm_R) : Option (Int64 × pm_M) := match r with
  | (some (Sum.inr (Sum.inl x)), V) => some (x, V)
  | _ => none
def pm_ar (r : pm_R) : Option (Nat × pm_M) := match r with
  | (some (Sum.inr (Sum.inr x)), V) => some (x, V)
  | _ => none
def pm_av (r : pm_R) : Option pm_M := match r with
  | (none, V) => some V
  | _ => none
def pm_ev (cal : pm_K) (k : pm_S → Option pm_R) (t : pm_T) : Option pm_R := match t with
  | (b, Sum.inl l) => cond b (pm_alts k l) none
  | (b, Sum.inr (Sum.inl (m, as, V, kind, pc, ls, st))) => cond b (match kind with
    | 0 => ((cal m as V).bind pm_av).bind (fun q => k (pc, ls, st, q))
    | 1 => ((cal m as V).bind pm_ai).bind (fun q => k (pc, ls, vi q.1 :: st, q.2))
    | 2 => ((cal m as V).bind pm_al).bind (fun q => k (pc, ls, vl q.1 :: st, q.2))
    | _ => ((cal m as V).bind pm_ar).bind (fun q => k (pc, ls, vr q.1 :: st, q.2))) none
  | (b, Sum.inr (Sum.inr r)) => cond b (some r) none
/-- runs: by fuel -/
def pm_run (st : pm_C → pm_S → pm_T) (cal : pm_K) (c : pm_C) : Nat → pm_S → Option pm_R
  | 0, _ => none
  | n + 1, s => pm_ev cal (pm_run st cal c n) (st c s)
def pm_ent (n : Nat) (as : List pm_V) : pm_L := match as with
  | [] => List.replicate n none
  | (Sum.inr (Sum.inl x)) :: as => some (vl x) :: none :: pm_ent (n - 2) as
  | v :: as => some v :: pm_ent (n - 1) as
def pm_wd : List pm_V → Nat
  | [] => 0
  | (Sum.inr (Sum.inl _)) :: l => 2 + pm_wd l
  | _ :: l => 1 + pm_wd l
def pm_cal (st : pm_C → pm_S → pm_T) (co : Nat → pm_C) (mx : Nat → Nat) (n : Nat) : Nat → pm_K
  | 0 => fun _ _ _ => none
  | d + 1 => fun m as V => cond (Nat.ble (pm_wd as) (mx m)) (pm_run st (pm_cal st co mx n d) (co m) n (0, pm_ent (mx m) as, [], V)) none
/-- the order: what is told stays told -/
def pm_le {α β : Type} (f g : α → Option β) : Prop := ∀ a b, f a = some b → g a = some b
theorem pm_alts_mono {k k' : pm_S → Option pm_R} (h : pm_le k k') : ∀ (l : List (Bool × pm_S)) (r : pm_R), pm_alts k l = some r → pm_alts k' l = some r
  | [], r, e => by cases e
  | (c, s) :: l, r, e => by
    cases c with
    | true => exact h s r e
    | false => exact pm_alts_mono h l r e
theorem pm_ev_mono {cal cal' : pm_K} {k k' : pm_S → Option pm_R} (hc : ∀ m as V r, cal m as V = some r → cal' m as V = some r) (h : pm_le k k') (t : pm_T) (r : pm_R) (e : pm_ev cal k t = some r) : pm_ev cal' k' t = some r := by
  obtain ⟨b, t⟩ := t
  cases b with
  | false => rcases t with l | ⟨m, as, V, kind, pc, ls, st⟩ | q <;> cases e
  | true =>
    rcases t with l | ⟨m, as, V, kind, pc, ls, st⟩ | q
    · exact pm_alts_mono h l r e
    · cases hq : cal m as V with
      | none =>
        match kind, e with
        | 0, e => simp [pm_ev, hq] at e
        | 1, e => simp [pm_ev, hq] at e
        | 2, e => simp [pm_ev, hq] at e
        | n + 3, e => simp [pm_ev, hq] at e
      | some q =>
        have hq' := hc _ _ _ _ hq
        match kind, e with
        | 0, e =>
          simp only [pm_ev, hq, hq', cond_true, Option.bind_some, Option.bind_eq_some_iff] at e ⊢
          obtain ⟨x, e1, e2⟩ := e
          exact ⟨x, e1, h _ _ e2⟩
        | 1, e =>
          simp only [pm_ev, hq, hq', cond_true, Option.bind_some, Option.bind_eq_some_iff] at e ⊢
          obtain ⟨x, e1, e2⟩ := e
          exact ⟨x, e1, h _ _ e2⟩
        | 2, e =>
          simp only [pm_ev, hq, hq', cond_true, Option.bind_some, Option.bind_eq_some_iff] at e ⊢
          obtain ⟨x, e1, e2⟩ := e
          exact ⟨x, e1, h _ _ e2⟩
        | n + 3, e =>
          simp only [pm_ev, hq, hq', cond_true, Option.bind_some, Option.bind_eq_some_iff] at e ⊢
          obtain ⟨x, e1, e2⟩ := e
          exact ⟨x, e1, h _ _ e2⟩
    · exact e
theorem pm_run_mono {st : pm_C → pm_S → pm_T} {cal cal' : pm_K} (hc : ∀ m as V r, cal m as V = some r → cal' m as V = some r) (c : pm_C) : ∀ (n k : Nat), pm_le (pm_run st cal c n) (pm_run st cal' c (n + k))
  | 0, k => fun s r e => by cases e
  | n + 1, k => fun s r e => by
    rw [show n + 1 + k = (n + k) + 1 by omega]
    exact pm_ev_mono hc (pm_run_mono hc c n k) _ r e
theorem pm_cal_mono {st : pm_C → pm_S → pm_T} {co : Nat → pm_C} {mx : Nat → Nat} (n k : Nat) : ∀ (d : Nat) (m : Nat) (as : List pm_V) (V : pm_M) (r : pm_R), pm_cal st co mx n d m as V = some r → pm_cal st co mx (n + k) d m as V = some r
  | 0, m, as, V, r, e => by cases e
  | d + 1, m, as, V, r, e => by
    have e : cond (Nat.ble (pm_wd as) (mx m)) (pm_run st (pm_cal st co mx n d) (co m) n (0, pm_ent (mx m) as, [], V)) none = some r := e
    show cond (Nat.ble (pm_wd as) (mx m)) (pm_run st (pm_cal st co mx (n + k) d) (co m) (n + k) (0, pm_ent (mx m) as, [], V)) none = some r
    cases hb : Nat.ble (pm_wd as) (mx m) with
    | false => rw [hb] at e; cases e
    | true => rw [hb] at e; exact pm_run_mono (pm_cal_mono n k d) (co m) n k _ r e
/-- the limit -/
noncomputable def pm_lim {α : Type} (f : Nat → Option α) : Option α := @dite _ (∃ n a, f n = some a) (Classical.propDecidable _) (fun h => some (Classical.choose (Classical.choose_spec h))) (fun _ => none)
theorem pm_lim_iff {α : Type} {f : Nat → Option α} (hf : ∀ n k a, f n = some a → f (n + k) = some a) (a : α) : pm_lim f = some a ↔ ∃ n, f n = some a := by
  unfold pm_lim
  constructor
  · intro h
    split at h
    · rename_i hx
      cases h
      exact ⟨_, Classical.choose_spec (Classical.choose_spec hx)⟩
    · cases h
  · rintro ⟨n, h⟩
    have hx : ∃ n a, f n = some a := ⟨n, a, h⟩
    rw [dif_pos hx]
    have h2 := Classical.choose_spec (Classical.choose_spec hx)
    have h3 := hf _ n _ h2
    have h4 := hf n (Classical.choose hx) a h
    rw [Nat.add_comm, h4] at h3
    exact h3.symm
noncomputable def pm_Cal (st : pm_C → pm_S → pm_T) (co : Nat → pm_C) (mx : Nat → Nat) (d : Nat) : pm_K := fun m as V => pm_lim (fun n => pm_cal st co mx n d m as V)
noncomputable def pm_Run (st : pm_C → pm_S → pm_T) (co : Nat → pm_C) (mx : Nat → Nat) (d : Nat) (c : pm_C) : pm_S → Option pm_R := fun s => pm_lim (fun n => pm_run st (pm_cal st co mx n d) c n s)
theorem pm_Cal_iff {st : pm_C → pm_S → pm_T} {co : Nat → pm_C} {mx : Nat → Nat} {d m : Nat} {as : List pm_V} {V : pm_M} (r : pm_R) : pm_Cal st co mx d m as V = some r ↔ ∃ n, pm_cal st co mx n d m as V = some r := pm_lim_iff (fun n k a h => pm_cal_mono n k d m as V a h) r
theorem pm_Run_iff {st : pm_C → pm_S → pm_T} {co : Nat → pm_C} {mx : Nat → Nat} {d : Nat} {c : pm_C} {s : pm_S} (r : pm_R) : pm_Run st co mx d c s = some r ↔ ∃ n, pm_run st (pm_cal st co mx n d) c n s = some r := pm_lim_iff (fun n k a h => pm_run_mono (pm_cal_mono n k d) c n k _ a h) r
theorem pm_opt_ext {α : Type} {x y : Option α} (h : ∀ a, x = some a ↔ y = some a) : x = y := by
  cases x with
  | none => cases y with
    | none => rfl
    | some b => exact absurd ((h b).mpr rfl) (by simp)
  | some a => exact ((h a).mp rfl).symm
theorem pm_Cal_succ (st : pm_C → pm_S → pm_T) (co : Nat → pm_C) (mx : Nat → Nat) (d m : Nat) (as : List pm_V) (V : pm_M) : pm_Cal st co mx (d + 1) m as V = cond (Nat.ble (pm_wd as) (mx m)) (pm_Run st co mx d (co m) (0, pm_ent (mx m) as, [], V)) none := by
  apply pm_opt_ext
  intro r
  rw [pm_Cal_iff]
  cases hb : Nat.ble (pm_wd as) (mx m) with
  | false =>
    refine ⟨fun h => ?_, fun h => by cases h⟩
    obtain ⟨n, h⟩ := h
    have h : cond (Nat.ble (pm_wd as) (mx m)) (pm_run st (pm_cal st co mx n d) (co m) n (0, pm_ent (mx m) as, [], V)) none = some r := h
    rw [hb] at h
    cases h
  | true =>
    show _ ↔ pm_Run st co mx d (co m) (0, pm_ent (mx m) as, [], V) = some r
    rw [pm_Run_iff]
    have he : ∀ n, pm_cal st co mx n (d + 1) m as V = pm_run st (pm_cal st co mx n d) (co m) n (0, pm_ent (mx m) as, [], V) := fun n => by
      show cond (Nat.ble (pm_wd as) (mx m)) _ none = _
      rw [hb]
      rfl
    simp only [he]
theorem pm_alts_cont {f : Nat → pm_S → Option pm_R} {g : pm_S → Option pm_R} (hg : ∀ s r, g s = some r → ∃ n, f n s = some r) : ∀ (l : List (Bool × pm_S)) (r : pm_R), pm_alts g l = some r → ∃ n, pm_alts (f n) l = some r
  | [], r, e => by cases e
  | (c, s) :: l, r, e => by
    cases c with
    | true => exact hg s r e
    | false => exact pm_alts_cont hg l r e
theorem pm_ev_cont {cf : Nat → pm_K} {cg : pm_K} {f : Nat → pm_S → Option pm_R} {g : pm_S → Option pm_R} (hcm : ∀ n k m as V r, cf n m as V = some r → cf (n + k) m as V = some r) (hfm : ∀ n k s r, f n s = some r → f (n + k) s = some r) (hc : ∀ m as V r, cg m as V = some r → ∃ n, cf n m as V = some r) (hg : ∀ s r, g s = some r → ∃ n, f n s = some r) (t : pm_T) (r : pm_R) (e : pm_ev cg g t = some r) : ∃ n, pm_ev (cf n) (f n) t = some r := by
  obtain ⟨b, t⟩ := t
  cases b with
  | false => rcases t with l | ⟨m, as, V, kind, pc, ls, st⟩ | q <;> cases e
  | true =>
    rcases t with l | ⟨m, as, V, kind, pc, ls, st⟩ | q
    · exact pm_alts_cont hg l r e
    · cases hq : cg m as V with
      | none =>
        match kind, e with
        | 0, e => simp [pm_ev, hq] at e
        | 1, e => simp [pm_ev, hq] at e
        | 2, e => simp [pm_ev, hq] at e
        | n + 3, e => simp [pm_ev, hq] at e
      | some q =>
        obtain ⟨n1, h1⟩ := hc _ _ _ _ hq
        match kind, e with
        | 0, e =>
          simp only [pm_ev, hq, cond_true, Option.bind_some, Option.bind_eq_some_iff] at e
          obtain ⟨x, e1, e2⟩ := e
          obtain ⟨n2, h2⟩ := hg _ _ e2
          refine ⟨n1 + n2, ?_⟩
          have h3 := hcm n1 n2 _ _ _ _ h1
          have h4 := hfm n2 n1 _ _ h2
          rw [Nat.add_comm] at h4
          simp only [pm_ev, h3, cond_true, Option.bind_some, Option.bind_eq_some_iff]
          exact ⟨x, e1, h4⟩
        | 1, e =>
          simp only [pm_ev, hq, cond_true, Option.bind_some, Option.bind_eq_some_iff] at e
          obtain ⟨x, e1, e2⟩ := e
          obtain ⟨n2, h2⟩ := hg _ _ e2
          refine ⟨n1 + n2, ?_⟩
          have h3 := hcm n1 n2 _ _ _ _ h1
          have h4 := hfm n2 n1 _ _ h2
          rw [Nat.add_comm] at h4
          simp only [pm_ev, h3, cond_true, Option.bind_some, Option.bind_eq_some_iff]
          exact ⟨x, e1, h4⟩
        | 2, e =>
          simp only [pm_ev, hq, cond_true, Option.bind_some, Option.bind_eq_some_iff] at e
          obtain ⟨x, e1, e2⟩ := e
          obtain ⟨n2, h2⟩ := hg _ _ e2
          refine ⟨n1 + n2, ?_⟩
          have h3 := hcm n1 n2 _ _ _ _ h1
          have h4 := hfm n2 n1 _ _ h2
          rw [Nat.add_comm] at h4
          simp only [pm_ev, h3, cond_true, Option.bind_some, Option.bind_eq_some_iff]
          exact ⟨x, e1, h4⟩
        | n + 3, e =>
          simp only [pm_ev, hq, cond_true, Option.bind_some, Option.bind_eq_some_iff] at e
          obtain ⟨x, e1, e2⟩ := e
          obtain ⟨n2, h2⟩ := hg _ _ e2
          refine ⟨n1 + n2, ?_⟩
          have h3 := hcm n1 n2 _ _ _ _ h1
          have h4 := hfm n2 n1 _ _ h2
          rw [Nat.add_comm] at h4
          simp only [pm_ev, h3, cond_true, Option.bind_some, Option.bind_eq_some_iff]
          exact ⟨x, e1, h4⟩
    · exact ⟨0, e⟩
theorem pm_Run_unfold (st : pm_C → pm_S → pm_T) (co : Nat → pm_C) (mx : Nat → Nat) (d : Nat) (c : pm_C) (s : pm_S) : pm_Run st co mx d c s = pm_ev (pm_Cal st co mx d) (pm_Run st co mx d c) (st c s) := by
  apply pm_opt_ext
  intro r
  constructor
  · intro h
    obtain ⟨n, h⟩ := (pm_Run_iff r).mp h
    cases n with
    | zero => cases h
    | succ n =>
      refine pm_ev_mono (fun m as V r e => (pm_Cal_iff r).mpr ⟨_, e⟩) (fun s r e => (pm_Run_iff r).mpr ?_) _ r h
      exact ⟨n + 1, pm_run_mono (k := 1) (fun _ _ _ _ e => e) c n _ r e⟩
  · intro h
    obtain ⟨n, h⟩ := pm_ev_cont (cf := fun n => pm_cal st co mx n d) (f := fun n => pm_run st (pm_cal st co mx n d) c n) (fun n k m as V r e => pm_cal_mono n k d m as V r e) (fun n k s r e => pm_run_mono (pm_cal_mono n k d) c n k s r e) (fun m as V r e => (pm_Cal_iff r).mp e) (fun s r e => (pm_Run_iff r).mp e) _ r h
    refine (pm_Run_iff r).mpr ⟨n + 1, ?_⟩
    exact pm_ev_mono (fun m as V r e => pm_cal_mono n 1 d m as V r e) (fun s r e => pm_run_mono (k := 0) (pm_cal_mono n 1 d) c n s r e) _ r h
/-- a stretch: at most n steps, ended at places of a list -/
noncomputable def pm_seg (st : pm_C → pm_S → pm_T) (co : Nat → pm_C) (mx : Nat → Nat) (d : Nat) (c : pm_C) (stop : Nat → Bool) : Nat → pm_S → Option pm_R
  | 0, s => pm_Run st co mx d c s
  | n + 1, s => pm_ev (pm_Cal st co mx d) (fun s' => cond (stop s'.1) (pm_Run st co mx d c s') (pm_seg st co mx d c stop n s')) (st c s)
theorem pm_seg_eq (st : pm_C → pm_S → pm_T) (co : Nat → pm_C) (mx : Nat → Nat) (d : Nat) (c : pm_C) (stop : Nat → Bool) : ∀ (n : Nat) (s : pm_S), pm_Run st co mx d c s = pm_seg st co mx d c stop n s
  | 0, _ => rfl
  | n + 1, s => by
    rw [pm_Run_unfold]
    show _ = pm_ev _ _ _
    congr 1
    funext s'
    cases stop s'.1 with
    | true => rfl
    | false => exact pm_seg_eq st co mx d c stop n s'
