/-! SOUNDNESS, 8b: an instruction's step -/
def sn_fin (a b : Nat) : Bool := match vwCl[a]? with
  | some (_, T, _) => (T b).2.2.2
  | none => true
theorem sn_fin_of {a b : Nat} {C : String} {T : u_T} {N : Nat} (h : vwCl[a]? = some (C, T, N)) : sn_fin a b = (T b).2.2.2 := by
  unfold sn_fin
  rw [h]
/-! SOUNDNESS, 8: the checker of an instruction, and its step -/
def sn_de (mm pc : Nat) (i : Instr) (np len : Nat) : Bool := decide (decode (sn_b mm) pc = .ok (i, len)) && Nat.beq np (pc + len)
def sn_jp (pc a : Nat) (off : Int) : Bool := decide ((pc : Int) + off = (a : Int))
def sn_tw (pc : Nat) : Int → List Int → List (Int32 × Nat) → Bool
  | _, [], [] => true
  | lo, f :: fs, (v, t) :: sw => decide (v.toInt = lo) && (sn_jp pc t f && sn_tw pc (lo + 1) fs sw)
  | _, _, _ => false
def sn_lw (pc : Nat) : List (Int × Int) → List (Int32 × Nat) → Bool
  | [], [] => true
  | (w, f) :: fs, (v, t) :: sw => decide (v.toInt = w) && (sn_jp pc t f && sn_lw pc fs sw)
  | _, _ => false
def sn_at4 (t : ArrayType) : Nat := match t with
  | .int => 1
  | .byte => 2
  | .boolean => 3
  | .long => 4
  | _ => 0
def sn_chk (mm ow pc : Nat) (o : pm_O) : Bool := match o with
  | (i, np, a, b, c, x, y, sw) => match i with
    | .iconst n => sn_de mm pc i np 1 && decide (Int32.ofInt n = x)
    | .bipush n => sn_de mm pc i np 2 && decide ((Int8.ofInt n).toInt32 = x)
    | .sipush n => sn_de mm pc i np 3 && decide ((Int16.ofInt n).toInt32 = x)
    | .lconst n => sn_de mm pc i np 1 && decide (Int64.ofNat (n : Nat) = y)
    | .ldc d => sn_de mm pc i np 2 && cond (Nat.beq a 0) (sn_ci.contains (ow, d, x)) (Nat.ble 911 a && Nat.ble a 917 && Nat.beq ow 5 && Nat.beq d (sn_tx (a - 911)).1)
    | .ldc_w d => sn_de mm pc i np 3 && sn_ci.contains (ow, d, x)
    | .ldc2_w d => sn_de mm pc i np 3 && sn_cl.contains (ow, d, y)
    | .iload d => sn_de mm pc i np 2 && Nat.beq d a
    | .iload_n d => sn_de mm pc i np 1 && Nat.beq d.val a
    | .lload d => sn_de mm pc i np 2 && Nat.beq d a
    | .lload_n d => sn_de mm pc i np 1 && Nat.beq d.val a
    | .aload d => sn_de mm pc i np 2 && Nat.beq d a
    | .aload_n d => sn_de mm pc i np 1 && Nat.beq d.val a
    | .istore d => sn_de mm pc i np 2 && Nat.beq d a && Nat.ble (a + 1) (pm_mx mm)
    | .istore_n d => sn_de mm pc i np 1 && Nat.beq d.val a && Nat.ble (a + 1) (pm_mx mm)
    | .astore d => sn_de mm pc i np 2 && Nat.beq d a && Nat.ble (a + 1) (pm_mx mm)
    | .astore_n d => sn_de mm pc i np 1 && Nat.beq d.val a && Nat.ble (a + 1) (pm_mx mm)
    | .lstore d => sn_de mm pc i np 2 && Nat.beq d a && Nat.ble (a + 2) (pm_mx mm)
    | .lstore_n d => sn_de mm pc i np 1 && Nat.beq d.val a && Nat.ble (a + 2) (pm_mx mm)
    | .iinc d n => sn_de mm pc i np 3 && Nat.beq d a && decide (Int32.ofInt n = x) && Nat.ble (a + 1) (pm_mx mm)
    | .iadd => sn_de mm pc i np 1
    | .isub => sn_de mm pc i np 1
    | .imul => sn_de mm pc i np 1
    | .iand => sn_de mm pc i np 1
    | .ior => sn_de mm pc i np 1
    | .ixor => sn_de mm pc i np 1
    | .idiv => sn_de mm pc i np 1
    | .irem => sn_de mm pc i np 1
    | .ineg => sn_de mm pc i np 1
    | .ishl => sn_de mm pc i np 1
    | .ishr => sn_de mm pc i np 1
    | .iushr => sn_de mm pc i np 1
    | .i2b => sn_de mm pc i np 1
    | .i2l => sn_de mm pc i np 1
    | .l2i => sn_de mm pc i np 1
    | .ladd => sn_de mm pc i np 1
    | .lsub => sn_de mm pc i np 1
    | .lmul => sn_de mm pc i np 1
    | .land => sn_de mm pc i np 1
    | .lor => sn_de mm pc i np 1
    | .ldiv => sn_de mm pc i np 1
    | .lrem => sn_de mm pc i np 1
    | .lneg => sn_de mm pc i np 1
    | .lshl => sn_de mm pc i np 1
    | .lshr => sn_de mm pc i np 1
    | .lcmp => sn_de mm pc i np 1
    | .dup => sn_de mm pc i np 1
    | .dup2 => sn_de mm pc i np 1
    | .pop => sn_de mm pc i np 1
    | .iaload => sn_de mm pc i np 1
    | .baload => sn_de mm pc i np 1
    | .laload => sn_de mm pc i np 1
    | .aaload => sn_de mm pc i np 1
    | .iastore => sn_de mm pc i np 1
    | .bastore => sn_de mm pc i np 1
    | .lastore => sn_de mm pc i np 1
    | .aastore => sn_de mm pc i np 1
    | .arraylength => sn_de mm pc i np 1
    | .goto f => sn_de mm pc i np 3 && sn_jp pc a f
    | .ifCond _ f => sn_de mm pc i np 3 && sn_jp pc a f
    | .if_icmp _ f => sn_de mm pc i np 3 && sn_jp pc a f
    | .ifnull f => sn_de mm pc i np 3 && sn_jp pc a f
    | .ifnonnull f => sn_de mm pc i np 3 && sn_jp pc a f
    | .tableswitch df lo hi fs => decide (decode (sn_b mm) pc = .ok (i, np - pc)) && sn_jp pc a df && decide (hi + 1 = lo + (fs.size : Int)) && sn_tw pc lo fs.toList sw
    | .lookupswitch df ps => decide (decode (sn_b mm) pc = .ok (i, np - pc)) && sn_jp pc a df && (ps.toList.zip (ps.toList.drop 1)).all (fun (a, next) => a.1 < next.1) && sn_lw pc ps.toList sw
    | .getfield d => sn_de mm pc i np 3 && Nat.ble a 11 && sn_fl.contains (ow, d, a, b) && Nat.beq (pm_ft a b) c
    | .putfield d => sn_de mm pc i np 3 && Nat.ble a 11 && sn_fl.contains (ow, d, a, b) && Nat.beq (pm_ft a b) c && (decide (sn_fin a b = false) || (Nat.beq c 2 && decide ((sn_y mm).name = "<init>") && Nat.beq a ow))
    | .getstatic d => sn_de mm pc i np 3 && Nat.ble 901 a && Nat.ble a 905 && sn_gs.contains (ow, d, a - 901)
    | .new d => sn_de mm pc i np 3 && Nat.ble a 11 && sn_kl.contains (ow, d, a)
    | .newarray t => sn_de mm pc i np 2 && Nat.beq (sn_at4 t) a && Nat.ble 1 a
    | .anewarray d => sn_de mm pc i np 3 && sn_kl.contains (ow, d, a) && (Nat.beq a 0 || Nat.beq a 3 || Nat.beq a 6 || Nat.beq a 8 || Nat.beq a 9)
    | .multianewarray d k => sn_de mm pc i np 4 && Nat.beq d 32 && Nat.beq k 2 && Nat.beq ow 7
    | .invokestatic d => sn_de mm pc i np 3 && cond (Nat.ble 1000 a) (Nat.beq a 1007 && sn_x1007.contains (ow, d)) (sn_mol.contains (a, b) && (sn_ls.contains (ow, d, a) || sn_lsn.contains (ow, d, a)))
    | .invokevirtual d => sn_de mm pc i np 3 && cond (Nat.ble 1000 a) ((Nat.beq a 1005 && sn_x1005.contains (ow, d)) || (Nat.beq a 1006 && sn_x1006.contains (ow, d))) (Nat.ble 1 b && sn_mol.contains (a, b - 1) && sn_lvt.contains (ow, d, a) && Nat.ble (c / 4) 11 && decide ((sn_y a).cls = sn_ow (c / 4)))
    | .invokespecial d => sn_de mm pc i np 3 && cond (Nat.ble 1000 a) (Nat.beq a 1008 && sn_x1008.contains (ow, d)) (Nat.ble 1 b && sn_mol.contains (a, b - 1) && (sn_lsp.contains (ow, d, a) || sn_lspn.contains (ow, d, a)))
    | .ireturn => sn_de mm pc i np 1 && ((Nat.beq a 0 && decide (sn_rt mm = some .int)) || (Nat.beq a 1 && decide (sn_rt mm = some .boolean)))
    | .lreturn => sn_de mm pc i np 1 && decide (sn_rt mm = some .long)
    | .areturn => sn_de mm pc i np 1 && (match sn_rt mm with
      | some (.object _) => true
      | _ => false)
    | .return_ => sn_de mm pc i np 1 && decide (sn_rt mm = none)
    | _ => false
theorem sn_de_ok {mm pc np len : Nat} {i : Instr} (h : sn_de mm pc i np len = true) : decode (sn_b mm) pc = .ok (i, len) ∧ np = pc + len := by
  simp only [sn_de, Bool.and_eq_true, decide_eq_true_eq] at h
  exact ⟨h.1, Nat.eq_of_beq_eq_true h.2⟩
theorem sn_jp_ok {pc a : Nat} {f : Int} (h : sn_jp pc a f = true) : (pc : Int) + f = (a : Int) := of_decide_eq_true h
def sn_swt (x : Int32) (d : Nat) : List (Int32 × Nat) → Nat
  | [] => d
  | (v, t) :: l => if x = v then t else sn_swt x d l
theorem sn_sw_alts {k : pm_S → Option pm_R} {ls : pm_L} {st : List pm_V} {V : pm_M} {x : Int32} {d : Nat} : ∀ sw : List (Int32 × Nat), pm_alts k (pm_sw ls st V x d sw) = k (sn_swt x d sw, ls, st, V)
  | [] => rfl
  | (v, t) :: l => by
    show cond (decide (x = v)) (k (t, ls, st, V)) (pm_alts k (pm_sw ls st V x d l)) = k (if x = v then t else sn_swt x d l, ls, st, V)
    by_cases h : x = v
    · rw [if_pos h, decide_eq_true h]; rfl
    · rw [if_neg h, decide_eq_false h]; exact sn_sw_alts l
theorem sn_tw_ok {pc d : Nat} {x : Int32} : ∀ (fs : List Int) (sw : List (Int32 × Nat)) (lo : Int), sn_tw pc lo fs sw = true → (x.toInt < lo ∨ lo + (fs.length : Int) ≤ x.toInt → sn_swt x d sw = d) ∧ (¬ (x.toInt < lo ∨ lo + (fs.length : Int) ≤ x.toInt) → (pc : Int) + fs.getD (x.toInt - lo).toNat 0 = (sn_swt x d sw : Int))
  | [], [], lo, _ => ⟨fun _ => rfl, fun h => absurd (by simp; omega) h⟩
  | f :: fs, (v, t) :: sw, lo, h => by
    simp only [sn_tw, Bool.and_eq_true, decide_eq_true_eq] at h
    obtain ⟨h1, h2, h3⟩ := h
    have h2 := sn_jp_ok h2
    obtain ⟨i1, i2⟩ := sn_tw_ok (d := d) (x := x) fs sw (lo + 1) h3
    have hxv : x = v ↔ x.toInt = lo := by
      rw [← h1]
      exact ⟨fun e => by rw [e], fun e => Int32.toInt_inj.mp e⟩
    simp only [List.length_cons] at i1 i2 ⊢
    unfold sn_swt
    by_cases hx : x.toInt = lo
    · rw [if_pos (hxv.mpr hx)]
      refine ⟨fun h => ?_, fun _ => ?_⟩
      · omega
      · rw [show (x.toInt - lo).toNat = 0 by omega]
        exact h2
    · rw [if_neg (fun e => hx (hxv.mp e))]
      refine ⟨fun h => i1 (by omega), fun h => ?_⟩
      rw [show (x.toInt - lo).toNat = (x.toInt - (lo + 1)).toNat + 1 by omega]
      exact i2 (by omega)
  | [], _ :: _, _, h => by cases h
  | _ :: _, [], _, h => by cases h
theorem sn_lw_ok {pc d : Nat} {x : Int32} {df : Int} (hd : (pc : Int) + df = (d : Int)) : ∀ (ps : List (Int × Int)) (sw : List (Int32 × Nat)), sn_lw pc ps sw = true → (pc : Int) + Op.lookupswitch.offset ps df x.toInt = (sn_swt x d sw : Int)
  | [], [], _ => by simpa [Op.lookupswitch.offset, sn_swt] using hd
  | (w, f) :: ps, (v, t) :: sw, h => by
    simp only [sn_lw, Bool.and_eq_true, decide_eq_true_eq] at h
    obtain ⟨h1, h2, h3⟩ := h
    have h2 := sn_jp_ok h2
    have ih := sn_lw_ok (x := x) hd ps sw h3
    have hxv : x = v ↔ x.toInt = w := by
      rw [← h1]
      exact ⟨fun e => by rw [e], fun e => Int32.toInt_inj.mp e⟩
    unfold sn_swt Op.lookupswitch.offset
    by_cases hx : x.toInt = w
    · rw [if_pos (hxv.mpr hx)]
      simp [hx, h2]
    · rw [if_neg (fun e => hx (hxv.mp e))]
      simp [hx, Ne.symm hx]
      exact ih
  | [], _ :: _, h => by cases h
  | _ :: _, [], h => by cases h
