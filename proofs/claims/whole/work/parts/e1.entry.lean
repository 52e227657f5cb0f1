/-! ENTRY, 2: the start of the law -/
theorem en_tty {t : Nat} {ty : FieldType} (h : sn_tty t = some ty) : ty = .int ∨ ty = .byte ∨ ty = .boolean ∨ ty = .long ∨ ty = .array .int ∨ ty = .object RX0 ∨ ty = .object RX4 ∨ ty = .object RX7 ∨ ty = .object RX9 ∨ ty = .object RX10 := by
  unfold sn_tty at h
  split at h <;> first | (cases h; done) | (have h := Option.some.inj h; subst h; simp)
section EN
variable {s : State} {args : Array Value}
theorem en_pr {ty : FieldType} (h : (Cond.arrayClass ty).before args s = true) (hr : ∀ c, s.vm.findClass ("[" ++ ty.toString) = some c → va_RA s c ty) : ∃ c : ClassId, ArrOfT s c ty ∧ va_RA s c ty := by
  obtain ⟨c, k, comp, h1, h2, h3⟩ := Cond.arrayClass_spec h
  exact ⟨c, fun n z => ⟨fun _ h => (by cases h), k, h2, comp, h3⟩, hr c h1⟩
theorem en_ob {C : String} (h : (Cond.arrayOver (.object C)).before args s = true) : ∃ c : ClassId, ArrOfT s c (.object C) ∧ va_RA s c (.object C) := by
  obtain ⟨comp, c, k, h1, h2, h3, h4, h5⟩ := Cond.arrayOver_spec h
  exact ⟨c, fun n z => ⟨fun _ h => (by cases h), k, h3, comp, h4⟩, k, comp, h3, h4, h1, h5⟩
theorem en_rr (h : (Cond.arrayOver (.array .int)).before args s = true) : ∃ c : ClassId, ArrOfT s c (.array .int) ∧ va_RA s c (.array .int) := by
  obtain ⟨comp, c, k, h1, h2, h3, h4, h5⟩ := Jvm.Stand.arrayOver_specB h
  exact ⟨c, fun n z => ⟨fun _ h => (by cases h), k, h3, comp, h4⟩, h5⟩
theorem en_arr (ht : ∀ w ∈ lw_tbl, w.before args s = true) : ∃ cy : Nat → ClassId, ∀ t ty, sn_tty t = some ty → ArrOfT s (cy t) ty ∧ va_RA s (cy t) ty := by
  have h0 : ∀ t : Nat, ∃ c : ClassId, ∀ ty, sn_tty t = some ty → ArrOfT s c ty ∧ va_RA s c ty := by
    intro t
    cases hty : sn_tty t with
    | none => exact ⟨0, fun _ h => by cases h⟩
    | some ty =>
      have h1 : ∃ c : ClassId, ArrOfT s c ty ∧ va_RA s c ty := by
        rcases en_tty hty with rfl | rfl | rfl | rfl | rfl | rfl | rfl | rfl | rfl | rfl
        · exact en_pr (ht _ en_ac_int) (fun _ h => h)
        · exact en_pr (ht _ en_ac_byte) (fun _ h => h)
        · exact en_pr (ht _ en_ac_boolean) (fun _ h => h)
        · exact en_pr (ht _ en_ac_long) (fun _ h => h)
        · exact en_rr (ht _ en_aoI)
        · exact en_ob (ht _ en_ao_RX0)
        · exact en_ob (ht _ en_ao_RX4)
        · exact en_ob (ht _ en_ao_RX7)
        · exact en_ob (ht _ en_ao_RX9)
        · exact en_ob (ht _ en_ao_RX10)
      obtain ⟨c, hc⟩ := h1
      exact ⟨c, fun ty2 h => by have h := Option.some.inj h; subst h; exact hc⟩
  exact Classical.axiomOfChoice h0
theorem en_cls (ht : ∀ w ∈ lw_tbl, w.before args s = true) : ∃ dd : va_G, va_K dd vwCl [] s := by
  have h0 : ∀ k : Nat, ∃ r : ClassId × (Nat → Nat), ∀ q : vw_C, vwCl[k]? = some q → u_Kn s q.1 q.2.1 q.2.2 r.1 r.2 := by
    intro k
    match k with
    | 0 =>
      obtain ⟨c, f, h⟩ := u_known (C := RX0) (T := TX0) (N := 9) (n := 9) ht (fun w hw => (List.mem_filter.mp (sn_uw_0 w hw)).1) (ht _ en_in_0)
      exact ⟨(c, f), fun q hq => by cases hq; exact h⟩
    | 1 =>
      obtain ⟨c, f, h⟩ := u_known (C := RX2) (T := TX2) (N := 4) (n := 4) ht (fun w hw => (List.mem_filter.mp (sn_uw_1 w hw)).1) (ht _ en_in_1)
      exact ⟨(c, f), fun q hq => by cases hq; exact h⟩
    | 2 =>
      obtain ⟨c, f, h⟩ := u_known (C := RX3) (T := TX3) (N := 2) (n := 2) ht (fun w hw => (List.mem_filter.mp (sn_uw_2 w hw)).1) (ht _ en_in_2)
      exact ⟨(c, f), fun q hq => by cases hq; exact h⟩
    | 3 =>
      obtain ⟨c, f, h⟩ := u_known (C := RX4) (T := TX4) (N := 3) (n := 3) ht (fun w hw => (List.mem_filter.mp (sn_uw_3 w hw)).1) (ht _ en_in_3)
      exact ⟨(c, f), fun q hq => by cases hq; exact h⟩
    | 4 =>
      obtain ⟨c, f, h⟩ := u_known (C := RX5) (T := TX5) (N := 16) (n := 16) ht (fun w hw => (List.mem_filter.mp (sn_uw_4 w hw)).1) (ht _ en_in_4)
      exact ⟨(c, f), fun q hq => by cases hq; exact h⟩
    | 5 =>
      obtain ⟨c, f, h⟩ := u_known (C := RX6) (T := TX6) (N := 12) (n := 12) ht (fun w hw => (List.mem_filter.mp (sn_uw_5 w hw)).1) (ht _ en_in_5)
      exact ⟨(c, f), fun q hq => by cases hq; exact h⟩
    | 6 =>
      obtain ⟨c, f, h⟩ := u_known (C := RX7) (T := TX7) (N := 4) (n := 4) ht (fun w hw => (List.mem_filter.mp (sn_uw_6 w hw)).1) (ht _ en_in_6)
      exact ⟨(c, f), fun q hq => by cases hq; exact h⟩
    | 7 =>
      obtain ⟨c, f, h⟩ := u_known (C := RX8) (T := TX8) (N := 7) (n := 7) ht (fun w hw => (List.mem_filter.mp (sn_uw_7 w hw)).1) (ht _ en_in_7)
      exact ⟨(c, f), fun q hq => by cases hq; exact h⟩
    | 8 =>
      obtain ⟨c, f, h⟩ := u_known (C := RX9) (T := TX9) (N := 9) (n := 9) ht (fun w hw => (List.mem_filter.mp (sn_uw_8 w hw)).1) (ht _ en_in_8)
      exact ⟨(c, f), fun q hq => by cases hq; exact h⟩
    | 9 =>
      obtain ⟨c, f, h⟩ := u_known (C := RX10) (T := TX10) (N := 4) (n := 4) ht (fun w hw => (List.mem_filter.mp (sn_uw_9 w hw)).1) (ht _ en_in_9)
      exact ⟨(c, f), fun q hq => by cases hq; exact h⟩
    | 10 =>
      obtain ⟨c, f, h⟩ := u_known (C := RX11) (T := TX11) (N := 10) (n := 10) ht (fun w hw => (List.mem_filter.mp (sn_uw_10 w hw)).1) (ht _ en_in_10)
      exact ⟨(c, f), fun q hq => by cases hq; exact h⟩
    | 11 =>
      obtain ⟨c, f, h⟩ := u_known (C := RX12) (T := TX12) (N := 63) (n := 63) ht (fun w hw => (List.mem_filter.mp (sn_uw_11 w hw)).1) (ht _ en_in_11)
      exact ⟨(c, f), fun q hq => by cases hq; exact h⟩
    | k + 12 => exact ⟨(0, fun _ => 0), fun q hq => by
        rw [List.getElem?_eq_none (show 12 ≤ k + 12 by omega)] at hq
        cases hq⟩
  obtain ⟨f, hf⟩ := Classical.axiomOfChoice h0
  exact ⟨(fun k => (f k).1, fun k => (f k).2), fun k q hq => hf k q hq, fun k q h => by simp at h⟩
theorem en_start (hg : (Jvm.Cond.and given_1 narrow_1).before args s = true) (ht : ∀ w ∈ lw_tbl, w.before args s = true) {b L : Nat} {xs : Nat → Int32} (hX : va_X b L xs s s.heap) (hbl : b < s.heap.size) (al : List Nat) :
    ∃ (sa : Nat → Nat) (dd : va_G) (cy : Nat → ClassId) (adV : Nat → Nat), sa 900 = b ∧ sn_K (s.heap.size, al, sa, dd, cy, (L, xs), adV) s ∧ sn_Xs (s.heap.size, al, sa, dd, cy, (L, xs), adV) s := by
  have hs : ∀ w ∈ en_F, w.before args s = true := flat_of_before _ hg
  obtain ⟨cy, hcy⟩ := en_arr ht
  obtain ⟨dd, hdd⟩ := en_cls ht
  have hA : ∀ a : Nat, a < s.heap.size → ¬ (fun q : Nat => s.heap.size ≤ q) a := fun a h => Nat.not_le.mpr h
  have hst : ∀ k : Nat, ∃ t : Nat, k < 5 → va_Z RX6 (sn_sn k) "[I" (.ref t) (fun q : Nat => s.heap.size ≤ q) s s.heap ∧ va_T .int t (pm_sl (901 + k)) (fun j => .int (pm_sv (901 + k) j)) (fun q : Nat => s.heap.size ≤ q) s s.heap := by
    intro k
    by_cases hk : k < 5
    · obtain ⟨t, h1, h2⟩ := va_Tof (tm := .static RX6 (sn_sn k) "[I") (ty := .int) (N := pm_sl (901 + k)) (f := fun j => .int (pm_sv (901 + k) j)) (A := fun q : Nat => s.heap.size ≤ q) (en_s31 hk) (hs _ (en_sa hk)) (va_eqt (hs _ (en_sl hk))) (fun j hj => va_eqt (hs _ (en_se hk hj))) hA
      exact ⟨t, fun _ => ⟨va_Zof (ht _ (en_sy hk)) (ht _ en_i6) h1 hA, h2⟩⟩
    · exact ⟨0, fun h => absurd h hk⟩
  obtain ⟨fS, hfS⟩ := Classical.axiomOfChoice hst
  obtain ⟨adK, adV, hVS, hev⟩ := vk_Sof (args := args) (s := s) (N := 7) (tm := fun i => Term.string RX6 (sn_tx i).1) (len := sn_len) (byt := sn_byt) (A := fun q : Nat => s.heap.size ≤ q) (fun i hi => en_t31 hi) (fun i hi => hs _ (en_te hi)) (fun i hi => hs _ (en_tc hi)) (fun i hi => hs _ (en_ta hi)) (fun i hi => hs _ (en_tl hi)) (fun i hi j hj => hs _ (en_tb hi hj)) (fun i j hi hj hij => by
      rcases Nat.lt_or_gt_of_ne hij with h | h
      · exact Or.inl (hs _ (en_ne h hj))
      · exact Or.inr (hs _ (en_ne h hi))) hA
  obtain ⟨sa, e0, e1, e2⟩ : ∃ sa : Nat → Nat, sa 900 = b ∧ (∀ k, k < 5 → sa (901 + k) = fS k) ∧ ∀ k, sa (911 + k) = adK k := by
    refine ⟨fun q => if q = 900 then b else if q < 911 then fS (q - 901) else adK (q - 911), rfl, fun k hk => ?_, fun k => ?_⟩
    · show (if 901 + k = 900 then b else if 901 + k < 911 then fS (901 + k - 901) else adK (901 + k - 911)) = _
      rw [if_neg (by omega), if_pos (by omega), Nat.add_sub_cancel_left]
    · show (if 911 + k = 900 then b else if 911 + k < 911 then fS (911 + k - 901) else adK (911 + k - 911)) = _
      rw [if_neg (by omega), if_neg (by omega), Nat.add_sub_cancel_left]
  refine ⟨sa, dd, cy, adV, e0, ⟨hdd, hcy⟩, ?_⟩
  have e2f : (fun k => sa (911 + k)) = adK := funext e2
  refine ⟨?_, ?_, fun k hk => ?_, fun k hk => ?_, ?_, fun C hC => ?_, fun w hw => ?_, fun z hz => ?_, ?_, ao_I.of (ht _ en_aoI)⟩
  · show va_X (sa 900) L xs s s.heap
    rw [e0]
    exact hX
  · show sa 900 < s.heap.size
    rw [e0]
    exact hbl
  · show va_Z RX6 (sn_sn k) "[I" (.ref (sa (901 + k))) (fun q : Nat => s.heap.size ≤ q) s s.heap ∧ va_T .int (sa (901 + k)) (pm_sl (901 + k)) (fun j => .int (pm_sv (901 + k) j)) (fun q : Nat => s.heap.size ≤ q) s s.heap
    rw [e1 k hk]
    exact hfS k hk
  · show vk_R RX6 (sn_tx k).1 (sn_tx k).2 (sa (911 + k)) s
    rw [e2 k]
    exact vk_R.of (A := args) (ht _ (en_tr hk)) (hev k hk)
  · show vk_S 7 sn_len sn_byt (fun k => sa (911 + k)) adV (fun q : Nat => s.heap.size ≤ q) s s.heap
    rw [e2f]
    exact hVS
  · simp only [List.mem_cons, List.not_mem_nil, or_false] at hC
    rcases hC with rfl | rfl | rfl | rfl | rfl
    · exact va_AO.of (ht _ en_ao_RX0)
    · exact va_AO.of (ht _ en_ao_RX4)
    · exact va_AO.of (ht _ en_ao_RX7)
    · exact va_AO.of (ht _ en_ao_RX9)
    · exact va_AO.of (ht _ en_ao_RX10)
  · simp only [sn_nest, List.mem_cons, List.not_mem_nil, or_false] at hw
    rcases hw with rfl | rfl | rfl | rfl | rfl | rfl | rfl | rfl | rfl | rfl | rfl
    · exact va_Nw.of rfl (ht _ en_nw_0)
    · exact va_Nw.of rfl (ht _ en_nw_1)
    · exact va_Nw.of rfl (ht _ en_nw_2)
    · exact va_Nw.of rfl (ht _ en_nw_3)
    · exact va_Nw.of rfl (ht _ en_nw_4)
    · exact va_Nw.of rfl (ht _ en_nw_5)
    · exact va_Nw.of rfl (ht _ en_nw_6)
    · exact va_Nw.of rfl (ht _ en_nw_7)
    · exact va_Nw.of rfl (ht _ en_nw_8)
    · exact va_Nw.of rfl (ht _ en_nw_9)
    · exact va_Nw.of rfl (ht _ en_nw_10)
  · simp only [sn_zs, List.mem_cons, List.not_mem_nil, or_false] at hz
    subst hz
    exact va_Zof (ht _ en_y1) (ht _ en_i1) (va_eqt (hs _ en_cs)) hA
  · exact va_Zqof (ht _ en_y2) (ht _ en_i2) (hs _ en_si) hA
end EN
/-! THE CLAIM OUT OF ONE WALK OF THE LAW'S BODY. Your part is whole_start (and what it stands on); all else here is the same for every law, but numbers. -/
def R_law : String := "BellowsChoirLaw"
def lw_P (b : Addr) (xs : List Int32) (args : Array Value) (s : State) : Prop := args = #[.ref b] ∧ s.IntsAt b xs ∧ xs.length ≤ 384 ∧ (Jvm.Cond.and given_1 narrow_1).before args s = true
def lw_Q (_ : Array Value) (s : State) (o : Outcome) (t : State) : Prop := o = .returned (some (.int 1)) ∧ Framed s o t [] 600000 7302250
def lw_Z (below : List Frame) (a : Array Value) (s : State) : State → Prop := fun t => ∃ o, t.status = .running ∧ Ended t below o ∧ lw_Q a s o t
/-- the law's own end, with 1 on the stack, nothing written that was there before, its room as the claim has it -/
theorem lw_ret {p : Program} {l : Launch} {e : Env} {s : State} {m : MethodId} {below : List Frame} {meth : Method} {c : Code} {b : Nat} (hx : p.tables.exec = Jvm.exec) (hb : c.code = code) (hr : meth.sig.returnType = ret) (hlocks : meth.locks = false) {pc : Nat} {H : Heap} {ls : Array Slot} (hdg : decode code pc = .ok (.ireturn, 1)) : W p l e room_1 s m #[Value.ref b] below meth c H [] 600000 7302250 (lw_Z below #[Value.ref b] s) (F0 m pc ls [.int 1]) := by
  intro T hT X
  obtain ⟨fs, hret, hrun, hended, hW, hframe⟩ := X.leave (v := some (.int 1)) (hlocks := hlocks) (fun h => by rw [hr] at h; cases h)
  have hmeth' : T.vm.method? m = some meth := X.method'
  refine ⟨T.setFrames fs, ?_, .returned (some (.int 1)), hrun, hended, rfl, ⟨_, rfl⟩, hW, hframe⟩
  jvm_step X.here [X.here.top, hx, hb, hdg, hmeth', hr, ret, narrow_b1]
  (try refine ⟨rfl, ?_⟩); (try refine ⟨rfl, ?_⟩)
  first | (intro acts; rw [hret _ acts rfl rfl rfl]) | rw [hret _ _ rfl rfl rfl]
  exact Steps.refl _
/-- what holds at the law's entry: the machine, the code, the tables' words (any of lw_tbl by 'hts w (by decide +kernel)'), the script of L ints xs at the cell b, what the Statement gives of the start (any of its parts by flat_of_before) -/
def lw_At (p : Program) (s : State) (m : MethodId) (meth : Method) (c : Code) (b L : Nat) (xs : Nat → Int32) : Prop :=
  p.tables.exec = Jvm.exec ∧ c.code = code ∧ meth.sig.returnType = ret ∧ c.maxLocals = 4 ∧ s.vm.findClass R_law = some m.cls ∧ (∀ w ∈ lw_tbl, w.before #[Value.ref b] s = true) ∧ va_X b L xs s s.heap ∧ b < s.heap.size ∧ meth.locks = false ∧ (Jvm.Cond.and given_1 narrow_1).before #[Value.ref b] s = true ∧ meth.name = "law"
section ENF
variable {E : sn_E} {p : Program} {l : Launch} {e : Env} {s : State} {m : MethodId} {below : List Frame} {meth : Method} {c : Code} {b0 ow d : Nat}
theorem en_fin {pc : Nat} {ls : pm_L} {st : List pm_V} {V : pm_M} {i : Instr} {np a b f : Nat} {x : Int32} {y : Int64} {sw : List (Int32 × Nat)} (hx : p.tables.exec = Jvm.exec) (hb : c.code = code) (hrt : meth.sig.returnType = ret) (hlk : meth.locks = false) (hE : E.1 = s.heap.size) {Vf : pm_M} (hmc : Vf.1.length ≤ 600000) (hms : sn_tt Vf.1 ≤ 7302250) (hchk : sn_chk 284 ow pc (i, np, a, b, f, x, y, sw) = true) (hi : i = .ireturn ∨ i = .lreturn ∨ i = .areturn ∨ i = .return_) {bb : Bool} (he : pm_ins E.2.2.2.2.2.1 i np a b f x y sw ls st V = (bb, Sum.inr (Sum.inr (some (vi 1), Vf)))) :
    sn_Go E p l e room_1 s m #[Value.ref b0] below meth c (pm_mx 284) 0 0 (lw_Z below #[Value.ref b0] s) pc ls st V := by
  rcases hi with rfl | rfl | rfl | rfl
  · rcases st with _ | ⟨w, _ | ⟨w2, st⟩⟩
    · cases he
    · rcases w with u | u | u
      · have he : ((cond (Nat.beq a 1) (pm_01 u) true, Sum.inr (Sum.inr (some (vi u), V))) : pm_T) = (bb, Sum.inr (Sum.inr (some (vi 1), Vf))) := he
        obtain ⟨h1, h2⟩ := Prod.mk.inj he
        have h2 : ((some (vi u), V) : pm_R) = (some (vi 1), Vf) := Sum.inr.inj (Sum.inr.inj h2)
        obtain ⟨h3, h4⟩ := Prod.mk.inj h2
        have h3 : u = 1 := Sum.inl.inj (Option.some.inj h3)
        subst h3
        subst h4
        have hc : (sn_de 284 pc .ireturn np 1 && ((Nat.beq a 0 && decide (sn_rt 284 = some .int)) || (Nat.beq a 1 && decide (sn_rt 284 = some .boolean)))) = true := hchk
        rw [Bool.and_eq_true] at hc
        have hd : decode code pc = .ok (.ireturn, 1) := (sn_de_ok hc.1).1
        intro H locs cells slots arr hS hV hc' hs hl
        show W p l e room_1 s m #[Value.ref b0] below meth c H locs cells slots _ (F0 m pc arr [.int 1])
        refine va_forget (fun q hq => by rw [← hE]; exact hV.2.2 q hq) ?_
        refine W.widen (k := 600000) (n := 7302250) (by omega) (by omega) ?_
        exact lw_ret hx hb hrt hlk hd
      · cases he
      · cases he
    · rcases w with u | u | u <;> cases he
  · rcases st with _ | ⟨w, _ | ⟨w2, st⟩⟩
    · cases he
    · rcases w with u | u | u
      · cases he
      · have he : ((true, Sum.inr (Sum.inr (some (vl u), V))) : pm_T) = (bb, Sum.inr (Sum.inr (some (vi 1), Vf))) := he
        have h2 : ((some (vl u), V) : pm_R) = (some (vi 1), Vf) := Sum.inr.inj (Sum.inr.inj (Prod.mk.inj he).2)
        cases h2
      · cases he
    · rcases w with u | u | u <;> cases he
  · rcases st with _ | ⟨w, _ | ⟨w2, st⟩⟩
    · cases he
    · rcases w with u | u | u
      · cases he
      · cases he
      · have he : ((!(Nat.beq u 0), Sum.inr (Sum.inr (some (vr u), V))) : pm_T) = (bb, Sum.inr (Sum.inr (some (vi 1), Vf))) := he
        have h2 : ((some (vr u), V) : pm_R) = (some (vi 1), Vf) := Sum.inr.inj (Sum.inr.inj (Prod.mk.inj he).2)
        cases h2
    · rcases w with u | u | u <;> cases he
  · rcases st with _ | ⟨w, st⟩
    · have he : ((true, Sum.inr (Sum.inr (none, V))) : pm_T) = (bb, Sum.inr (Sum.inr (some (vi 1), Vf))) := he
      have h2 : ((none, V) : pm_R) = (some (vi 1), Vf) := Sum.inr.inj (Sum.inr.inj (Prod.mk.inj he).2)
      cases h2
    · cases he
theorem en_S0 {H : Heap} (h : H.size = E.1) : sn_S E ([], (fun _ => false), (fun _ _ => 0), (fun _ _ => 0), (fun _ _ => 0)) H :=
  ⟨h, List.nil_prefix, fun a => ⟨fun h => (by cases h), fun h => (by cases h)⟩, fun a h => (by cases h), fun a _ j => ⟨rfl, rfl, rfl⟩, fun a j _ => rfl, fun a h => (by cases h), List.nodup_nil⟩
/-- the law, over what the pure machine says of it -/
theorem en_go (l : Launch) {b L : Nat} {xs : Nat → Int32} (C0 : lw_At p s m meth c b L xs) {n : Nat} {Vf : pm_M} (hrun : pm_cal (pm_st (L, xs)) pm_co pm_mx n 19 284 [vr 900] ([], (fun _ => false), (fun _ _ => 0), (fun _ _ => 0), (fun _ _ => 0)) = some (some (vi 1), Vf)) (hmc : Vf.1.length ≤ 600000) (hms : sn_tt Vf.1 ≤ 7302250) :
    W p l e room_1 s m #[Value.ref b] below meth c s.heap [] 0 0 (lw_Z below #[Value.ref b] s) (entryFrame m ([Value.ref b] : List Value).toArray 4) := by
  obtain ⟨hx, hb, hr, hml, hown, hts, hX, hbl, hlocks, hgv, hname⟩ := C0
  obtain ⟨sa, dd, cy, adV, e0, hK, hXs⟩ := en_start hgv hts hX hbl Vf.1
  have hE1 : ((s.heap.size, Vf.1, sa, dd, cy, (L, xs), adV) : sn_E).1 = s.heap.size := rfl
  have hE2 : ((s.heap.size, Vf.1, sa, dd, cy, (L, xs), adV) : sn_E).2.1 = Vf.1 := rfl
  have hEX : ((s.heap.size, Vf.1, sa, dd, cy, (L, xs), adV) : sn_E).2.2.2.2.2.1 = (L, xs) := rfl
  have hE9 : ((s.heap.size, Vf.1, sa, dd, cy, (L, xs), adV) : sn_E).2.2.1 900 = b := e0
  generalize ((s.heap.size, Vf.1, sa, dd, cy, (L, xs), adV) : sn_E) = E at hK hXs hE1 hE2 hEX hE9
  have hm : [vr 900].map (sn_cv E) = [Value.ref b] := by
    show [sn_rf E 900] = _
    rw [sn_rf9 (Nat.le_refl 900), hE9]
  have hl := sn_entry (E := E) (as := [vr 900]) (n := 4) (by decide)
  rw [hm] at hl
  rw [lg_entry_eq]
  rw [← hEX] at hrun
  have hrun : pm_run (pm_st E.2.2.2.2.2.1) (pm_cal (pm_st E.2.2.2.2.2.1) pm_co pm_mx n 18) (pm_co 284) n (0, pm_ent 4 [vr 900], [], ([], (fun _ => false), (fun _ _ => 0), (fun _ _ => 0), (fun _ _ => 0))) = some (some (vi 1), Vf) := hrun
  have C : sn_Cx E p room_1 s m #[Value.ref b] meth c 0 284 (sn_wm 284) 18 := ⟨hx, hb, hml, hown, fun w hw => hts w (List.mem_filter.mp hw).1, hK, hXs, hE1.symm, hname, by decide, by decide⟩
  exact sn_runW (t0 := 0) C (sn_hck 284) (fun m' as' V' rc hh => ⟨sn_ocal 18 m' as' V' rc hh, fun hp => sn_met (fun mm pc o h => sn_hck mm pc o h) sn_hpl 18 n m' as' V' rc hh hp⟩) (by rw [hE2]; exact List.prefix_rfl) ⟨by show Vf.1.length ≤ 0 + 600000; omega, by show sn_tt Vf.1 ≤ 0 + 7302250; omega⟩
    (fun pc ls st V2 i np a b f x y sw hc hi bb he hbb => en_fin hx hb hr hlocks hE1 hmc hms (sn_hck 284 pc _ hc) hi he) n _ hrun s.heap [] 0 0 _ (en_S0 hE1.symm) va_S.rf rfl rfl hl
end ENF
