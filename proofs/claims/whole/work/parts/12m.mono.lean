/-! SOUNDNESS, 9: what has been made stays made -/
def sn_oT (V : pm_M) (t : pm_T) : Prop := match t with
  | (_, Sum.inl l) => ∀ q ∈ l, V.1 <+: q.2.2.2.2.1
  | (_, Sum.inr (Sum.inl c)) => c.2.2.1 = V
  | (_, Sum.inr (Sum.inr r)) => r.2 = V
theorem sn_o0 {V : pm_M} : sn_oT V pm_no := fun q h => by cases h
theorem sn_o1 {V : pm_M} {b : Bool} {s' : pm_S} (h : V.1 <+: s'.2.2.2.1) : sn_oT V (pm_gx b s') := fun q hq => by
  rw [List.mem_singleton.mp hq]
  exact h
theorem sn_o2 {V : pm_M} {b : Bool} {s' t' : pm_S} (h : V.1 <+: s'.2.2.2.1) (h2 : V.1 <+: t'.2.2.2.1) : sn_oT V (pm_br b s' t') := fun q hq => by
  rcases List.mem_cons.mp hq with e | hq
  · rw [e]; exact h
  · rw [List.mem_singleton.mp hq]; exact h2
theorem sn_oc {V : pm_M} {b : Bool} {t t' : pm_T} (h : sn_oT V t) (h2 : sn_oT V t') : sn_oT V (cond b t t') := by
  cases b
  · exact h2
  · exact h
theorem sn_osw {V : pm_M} {ls : pm_L} {st : List pm_V} {x : Int32} {d : Nat} : ∀ sw : List (Int32 × Nat), ∀ q ∈ pm_sw ls st V x d sw, V.1 <+: q.2.2.2.2.1
  | [], q, h => by
    rw [List.mem_singleton.mp h]
    exact List.prefix_refl _
  | (v, t) :: l, q, h => by
    rcases List.mem_cons.mp h with e | h
    · rw [e]; exact List.prefix_refl _
    · exact sn_osw l q h
theorem sn_oext {V : pm_M} {np a : Nat} {ls : pm_L} {st : List pm_V} : sn_oT V (pm_ext np a ls st V) := by
  unfold pm_ext
  repeat' split
  all_goals first | exact sn_o0 | exact sn_o1 (List.prefix_refl _)
theorem sn_oinv {V : pm_M} {np a b c : Nat} {ls : pm_L} {st : List pm_V} : sn_oT V (pm_inv np a b c ls st V) := sn_oc sn_oext rfl
theorem sn_oino {V : pm_M} {np a b c : Nat} {ls : pm_L} {st : List pm_V} : sn_oT V (pm_ino np a b c ls st V) := by
  unfold pm_ino
  refine sn_oc sn_oext ?_
  split
  · rfl
  · exact sn_o0
theorem sn_omk {V : pm_M} {np q tag n : Nat} {ls : pm_L} {st : List pm_V} : sn_oT V (pm_mke np ls st V q tag n) := sn_o1 (List.prefix_append _ _)
set_option maxHeartbeats 4000000 in
theorem sn_oins {X : Nat × (Nat → Int32)} {i : Instr} {np a b c : Nat} {x : Int32} {y : Int64} {sw : List (Int32 × Nat)} {ls : pm_L} {st : List pm_V} {V : pm_M} : sn_oT V (pm_ins X i np a b c x y sw ls st V) := by
  cases i
  case ifCond cn f =>
    cases cn <;> (rcases st with _ | ⟨w, st⟩ <;> first | exact sn_o0 | (rcases w with u | u | u <;> first | exact sn_o0 | exact sn_o2 (List.prefix_refl _) (List.prefix_refl _)))
  case if_icmp cn f =>
    cases cn <;> (rcases st with _ | ⟨w, st⟩ <;> first | exact sn_o0 | (rcases w with u | u | u <;> first | exact sn_o0 | (rcases st with _ | ⟨w, st⟩ <;> first | exact sn_o0 | (rcases w with v | v | v <;> first | exact sn_o0 | exact sn_o2 (List.prefix_refl _) (List.prefix_refl _)))))
  case ifnull => rcases st with _ | ⟨w, st⟩ <;> first | exact sn_o0 | (rcases w with u | u | u <;> first | exact sn_o0 | exact sn_o2 (List.prefix_refl _) (List.prefix_refl _))
  case ifnonnull => rcases st with _ | ⟨w, st⟩ <;> first | exact sn_o0 | (rcases w with u | u | u <;> first | exact sn_o0 | exact sn_o2 (List.prefix_refl _) (List.prefix_refl _))
  case tableswitch => rcases st with _ | ⟨w, st⟩ <;> first | exact sn_o0 | (rcases w with u | u | u <;> first | exact sn_o0 | exact sn_osw sw)
  case lookupswitch => rcases st with _ | ⟨w, st⟩ <;> first | exact sn_o0 | (rcases w with u | u | u <;> first | exact sn_o0 | exact sn_osw sw)
  case invokestatic => exact sn_oinv
  case invokevirtual => exact sn_oino
  case invokespecial => exact sn_oino
  case new => exact sn_omk
  case newarray => rcases st with _ | ⟨w, st⟩ <;> first | exact sn_o0 | (rcases w with u | u | u <;> first | exact sn_o0 | exact sn_oc sn_omk sn_o0)
  case anewarray => rcases st with _ | ⟨w, st⟩ <;> first | exact sn_o0 | (rcases w with u | u | u <;> first | exact sn_o0 | exact sn_oc sn_omk sn_o0)
  case multianewarray => rcases st with _ | ⟨w, st⟩ <;> first | exact sn_o0 | (rcases w with u | u | u <;> first | exact sn_o0 | (rcases st with _ | ⟨w, st⟩ <;> first | exact sn_o0 | (rcases w with v | v | v <;> first | exact sn_o0 | exact sn_o1 (List.prefix_append _ _))))
  case ldc => exact sn_oc (sn_o1 (List.prefix_refl _)) (sn_o1 (List.prefix_refl _))
  case ireturn => rcases st with _ | ⟨w, _ | ⟨w2, st⟩⟩ <;> first | exact sn_o0 | (rcases w with u | u | u <;> first | exact sn_o0 | exact (rfl : V = V))
  case lreturn => rcases st with _ | ⟨w, _ | ⟨w2, st⟩⟩ <;> first | exact sn_o0 | (rcases w with u | u | u <;> first | exact sn_o0 | exact (rfl : V = V))
  case areturn => rcases st with _ | ⟨w, _ | ⟨w2, st⟩⟩ <;> first | exact sn_o0 | (rcases w with u | u | u <;> first | exact sn_o0 | exact (rfl : V = V))
  case return_ => rcases st with _ | ⟨w, st⟩ <;> first | exact sn_o0 | exact (rfl : V = V)
  all_goals first
    | exact sn_o0
    | exact sn_o1 (List.prefix_refl _)
    | (simp only [pm_ins]; (repeat' split) <;> first | exact sn_o0 | exact sn_o1 (List.prefix_refl _) | exact sn_oc (sn_o1 (List.prefix_refl _)) (sn_o1 (List.prefix_refl _)) | exact sn_oc (sn_oc (sn_o1 (List.prefix_refl _)) (sn_o1 (List.prefix_refl _))) (sn_o1 (List.prefix_refl _)))
theorem sn_oalts {V : pm_M} {k : pm_S → Option pm_R} (hk : ∀ s r, k s = some r → s.2.2.2.1 <+: r.2.1) : ∀ (l : List (Bool × pm_S)) (r : pm_R), (∀ q ∈ l, V.1 <+: q.2.2.2.2.1) → pm_alts k l = some r → V.1 <+: r.2.1
  | [], r, _, e => by cases e
  | (c, s) :: l, r, h, e => by
    cases c with
    | true => exact (h (true, s) List.mem_cons_self).trans (hk s r e)
    | false => exact sn_oalts hk l r (fun q hq => h q (List.mem_cons_of_mem _ hq)) e
theorem sn_ovc {cal : pm_K} {k : pm_S → Option pm_R} {r : pm_R} {g : Bool} {m' : Nat} {as : List pm_V} {V : pm_M} {kind pc' : Nat} {ls : pm_L} {st' : List pm_V} (h : pm_ev cal k (g, Sum.inr (Sum.inl (m', as, V, kind, pc', ls, st'))) = some r) : ∃ rc s', cal m' as V = some rc ∧ s'.2.2.2 = rc.2 ∧ k s' = some r := by
  cases g with
  | false => cases h
  | true =>
    cases hq : cal m' as V with
    | none =>
      match kind, h with
      | 0, h => simp [pm_ev, hq] at h
      | 1, h => simp [pm_ev, hq] at h
      | 2, h => simp [pm_ev, hq] at h
      | n + 3, h => simp [pm_ev, hq] at h
    | some rc =>
      obtain ⟨rv, V'⟩ := rc
      match kind, h with
      | 0, h =>
        simp only [pm_ev, hq, cond_true, Option.bind_some, Option.bind_eq_some_iff] at h
        obtain ⟨q, h1, h2⟩ := h
        unfold pm_av at h1
        split at h1
        · cases h1; rename_i he; cases he; exact ⟨_, _, rfl, rfl, h2⟩
        · cases h1
      | 1, h =>
        simp only [pm_ev, hq, cond_true, Option.bind_some, Option.bind_eq_some_iff] at h
        obtain ⟨q, h1, h2⟩ := h
        unfold pm_ai at h1
        split at h1
        · cases h1; rename_i he; cases he; exact ⟨_, _, rfl, rfl, h2⟩
        · cases h1
      | 2, h =>
        simp only [pm_ev, hq, cond_true, Option.bind_some, Option.bind_eq_some_iff] at h
        obtain ⟨q, h1, h2⟩ := h
        unfold pm_al at h1
        split at h1
        · cases h1; rename_i he; cases he; exact ⟨_, _, rfl, rfl, h2⟩
        · cases h1
      | n + 3, h =>
        simp only [pm_ev, hq, cond_true, Option.bind_some, Option.bind_eq_some_iff] at h
        obtain ⟨q, h1, h2⟩ := h
        unfold pm_ar at h1
        split at h1
        · cases h1; rename_i he; cases he; exact ⟨_, _, rfl, rfl, h2⟩
        · cases h1
theorem sn_oev {V : pm_M} {cal : pm_K} {k : pm_S → Option pm_R} (hc : ∀ m as V r, cal m as V = some r → V.1 <+: r.2.1) (hk : ∀ s r, k s = some r → s.2.2.2.1 <+: r.2.1) {t : pm_T} (ht : sn_oT V t) {r : pm_R} (h : pm_ev cal k t = some r) : V.1 <+: r.2.1 := by
  obtain ⟨g, t⟩ := t
  rcases t with l | ⟨m', as, V', kind, pc', ls, st'⟩ | r'
  · cases g with
    | false => cases h
    | true => exact sn_oalts hk l r ht h
  · have ht : V' = V := ht
    subst ht
    obtain ⟨rc, s', h1, h2, h3⟩ := sn_ovc h
    have h4 := hk _ _ h3
    rw [h2] at h4
    exact (hc _ _ _ _ h1).trans h4
  · cases g with
    | false => cases h
    | true =>
      have he : r' = r := Option.some.inj h
      have ht : r'.2 = V := ht
      rw [← he, ht]
      exact List.prefix_refl _
theorem sn_orun {X : Nat × (Nat → Int32)} {cal : pm_K} {c : pm_C} (hc : ∀ m as V r, cal m as V = some r → V.1 <+: r.2.1) : ∀ (n : Nat) (s : pm_S) (r : pm_R), pm_run (pm_st X) cal c n s = some r → s.2.2.2.1 <+: r.2.1
  | 0, s, r, h => by cases h
  | n + 1, (pc, ls, st, V), r, h => by
    have h : pm_ev cal (pm_run (pm_st X) cal c n) (pm_st X c (pc, ls, st, V)) = some r := h
    refine sn_oev (V := V) hc (fun s r h => sn_orun hc n s r h) ?_ h
    unfold pm_st
    show sn_oT V (match c pc with | none => pm_no | some (i, np, a, b, k, x, y, sw) => pm_ins X i np a b k x y sw ls st V)
    split
    · exact sn_o0
    · exact sn_oins
theorem sn_ocal {X : Nat × (Nat → Int32)} {n : Nat} : ∀ (d m : Nat) (as : List pm_V) (V : pm_M) (r : pm_R), pm_cal (pm_st X) pm_co pm_mx n d m as V = some r → V.1 <+: r.2.1
  | 0, m, as, V, r, h => by cases h
  | d + 1, m, as, V, r, h => by
    have h : cond (Nat.ble (pm_wd as) (pm_mx m)) (pm_run (pm_st X) (pm_cal (pm_st X) pm_co pm_mx n d) (pm_co m) n (0, pm_ent (pm_mx m) as, [], V)) none = some r := h
    cases hb : Nat.ble (pm_wd as) (pm_mx m) with
    | false => rw [hb] at h; cases h
    | true => rw [hb] at h; exact sn_orun (sn_ocal d) n _ r h
