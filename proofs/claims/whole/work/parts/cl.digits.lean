section
/-- the shifts of a row by its number: the digit of note k among N -/
def sfd (e N n k : Nat) : Nat := n / e ^ (N - 1 - k) % e
theorem sfd_lt {e N n k : Nat} (he : 0 < e) : sfd e N n k < e := Nat.mod_lt _ he
theorem sfd_pre {e N k p i j : Nat} (he : 0 < e) (hk : k ≤ N) (hj : j < k) (hi : i < e ^ (N - k)) : sfd e N (p * e ^ (N - k) + i) j = sfd e k p j := by
  rw [sfd, sfd, show N - 1 - j = (N - k) + (k - 1 - j) by omega, Nat.pow_add, ← Nat.div_div_eq_div_mul]
  have h : (p * e ^ (N - k) + i) / e ^ (N - k) = p := by
    rw [Nat.add_comm, Nat.add_mul_div_right _ _ (Nat.lt_of_le_of_lt (Nat.zero_le i) hi), Nat.div_eq_of_lt hi, Nat.zero_add]
  rw [h]
theorem sfd_up {e k p s j : Nat} (he : 0 < e) (hj : j < k) (hs : s < e) : sfd e (k + 1) (p * e + s) j = sfd e k p j := by
  have h := sfd_pre (e := e) (N := k + 1) (k := k) (p := p) (i := s) (j := j) he (by omega) hj (by rw [show k + 1 - k = 1 by omega, Nat.pow_one]; exact hs)
  rw [show k + 1 - k = 1 by omega, Nat.pow_one] at h; exact h
theorem sfd_top {e k p s : Nat} (hs : s < e) : sfd e (k + 1) (p * e + s) k = s := by
  rw [sfd, show k + 1 - 1 - k = 0 by omega, Nat.pow_zero, Nat.div_one, Nat.add_comm, Nat.add_mul_mod_self_right, Nat.mod_eq_of_lt hs]
/-- how much later all together; far, if one goes beyond the last beat -/
def sfb (S : SC) (sh : Nat → Nat) (k : Nat) : Nat := fo (fun k a => a + (if S.2.2.1 k + sh k + S.2.2.2 k ≤ 12 then sh k else 1000000)) k 0
theorem sfb_congr {S : SC} {sh sh' : Nat → Nat} (k : Nat) (h : ∀ j, j < k → sh j = sh' j) : sfb S sh k = sfb S sh' k :=
  fo_congr _ _ (fun j a hj => by rw [h j hj])
theorem sfb_mono {S : SC} {sh : Nat → Nat} (k : Nat) : ∀ r, sfb S sh k ≤ sfb S sh (k + r)
  | 0 => Nat.le_refl _
  | r + 1 => Nat.le_trans (sfb_mono k r) (Nat.le_add_right _ _)
theorem sfb_le {S : SC} {sh : Nat → Nat} (h : ∀ j, sh j < 3) : ∀ k, sfb S sh k ≤ k * 1000000
  | 0 => Nat.le_refl _
  | k + 1 => by
    have ih := sfb_le (S := S) h k
    have h3 := h k
    rw [sfb, fo]
    rw [sfb] at ih
    split <;> omega
theorem wgs_congr {S : SC} {kp : Nat → Bool} {sh sh' : Nat → Nat} {t : Nat} (k : Nat) (h : ∀ j, j < k → sh j = sh' j) : wgs S kp sh k t = wgs S kp sh' k t :=
  fo_congr _ _ (fun j a hj => by rw [wg, wg, h j hj])
theorem wgs_mono {S : SC} {kp : Nat → Bool} {sh : Nat → Nat} {t i : Nat} (k : Nat) : ∀ r, tb (wgs S kp sh k t) i = true → tb (wgs S kp sh (k + r) t) i = true
  | 0, h => h
  | r + 1, h => by
    have ih := wgs_mono (kp := kp) k r h
    rw [wgs] at ih
    rw [wgs, ← Nat.add_assoc, fo, wg]
    split
    · rw [tb_or, ih, Bool.true_or]
    · exact ih
/-- the first k notes of a row are well played -/
def sfv (B : PB) (S : SC) (set : Int32) (sh : Nat → Nat) (k : Nat) : Bool := well (fun t => (pst B (wgs S (fun _ => true) sh k) (trd set (-1)) (t + 1)).2.2.2.2.1) 0 12
theorem sfv_congr {B : PB} {S : SC} {set : Int32} {sh sh' : Nat → Nat} (k : Nat) (h : ∀ j, j < k → sh j = sh' j) : sfv B S set sh k = sfv B S set sh' k := by
  rw [sfv, sfv, show wgs S (fun _ => true) sh k = wgs S (fun _ => true) sh' k from funext (fun t => wgs_congr k h)]
theorem sfv_mono {B : PB} {S : SC} {set : Int32} {sh : Nat → Nat} (g : bG B) (hp : ∀ i, i < B.2.2.2.2.1 → ∃ p, p < 32 ∧ B.2.2.2.2.2.2 i = Int32.ofNat p) (k r : Nat) (h : sfv B S set sh k = false) : sfv B S set sh (k + r) = false := by
  cases h' : sfv B S set sh (k + r) with
  | false => rfl
  | true =>
    have := well_mono (w := wgs S (fun _ => true) sh k) g hp (fun t _ i _ hb => wgs_mono k r hb) h'
    rw [sfv] at h
    rw [h] at this; cases this
/-- one row after the other -/
def sf1 (B : PB) (S : SC) (set : Int32) (e n : Nat) (q : Nat × Nat) : Nat × Nat := cond (decide (sfb S (sfd e S.1 n) S.1 < q.1) && sfv B S set (sfd e S.1 n) S.1) (sfb S (sfd e S.1 n) S.1, n) q
def sfs (B : PB) (S : SC) (set : Int32) (e a n : Nat) (q : Nat × Nat) : Nat × Nat := fo (fun i => sf1 B S set e (a + i)) n q
theorem sf1_le {B : PB} {S : SC} {set : Int32} {e n : Nat} {q : Nat × Nat} : (sf1 B S set e n q).1 ≤ q.1 := by
  rw [sf1]
  cases h : (decide (sfb S (sfd e S.1 n) S.1 < q.1) && sfv B S set (sfd e S.1 n) S.1) with
  | false => exact Nat.le_refl _
  | true => rw [Bool.and_eq_true, decide_eq_true_iff] at h; exact Nat.le_of_lt h.1
theorem sfs_le {B : PB} {S : SC} {set : Int32} {e a : Nat} {q : Nat × Nat} : ∀ n, (sfs B S set e a n q).1 ≤ q.1
  | 0 => Nat.le_refl _
  | n + 1 => Nat.le_trans (sf1_le (q := sfs B S set e a n q)) (sfs_le n)
theorem sfs_add {B : PB} {S : SC} {set : Int32} {e a : Nat} {q : Nat × Nat} (n : Nat) : ∀ r, sfs B S set e a (n + r) q = sfs B S set e (a + n) r (sfs B S set e a n q)
  | 0 => rfl
  | r + 1 => by
    have ih := sfs_add (B := B) (S := S) (set := set) (e := e) (a := a) (q := q) n r
    show sf1 B S set e (a + (n + r)) (sfs B S set e a (n + r) q) = sf1 B S set e (a + n + r) (sfs B S set e (a + n) r _)
    rw [ih, Nat.add_assoc]
/-- rows that begin with p: none is better, if those k notes say so -/
theorem sf1_no {B : PB} {S : SC} {set : Int32} {e k p i : Nat} {q : Nat × Nat} (g : bG B) (hp : ∀ i, i < B.2.2.2.2.1 → ∃ p, p < 32 ∧ B.2.2.2.2.2.2 i = Int32.ofNat p) (he : 0 < e) (hk : k ≤ S.1) (hi : i < e ^ (S.1 - k))
    (h : q.1 ≤ sfb S (sfd e k p) k ∨ sfv B S set (sfd e k p) k = false) : sf1 B S set e (p * e ^ (S.1 - k) + i) q = q := by
  have hd : ∀ j, j < k → sfd e S.1 (p * e ^ (S.1 - k) + i) j = sfd e k p j := fun j hj => sfd_pre he hk hj hi
  rw [sf1]
  rcases h with h | h
  · have h1 := sfb_mono (S := S) (sh := sfd e S.1 (p * e ^ (S.1 - k) + i)) k (S.1 - k)
    rw [show k + (S.1 - k) = S.1 by omega, sfb_congr k hd] at h1
    rw [df (by omega)]; rfl
  · have h1 := sfv_mono (S := S) (set := set) (sh := sfd e S.1 (p * e ^ (S.1 - k) + i)) g hp k (S.1 - k) (by rw [sfv_congr k hd]; exact h)
    rw [show k + (S.1 - k) = S.1 by omega] at h1
    rw [h1, Bool.and_false]; rfl
theorem sfs_no {B : PB} {S : SC} {set : Int32} {e k p : Nat} {q : Nat × Nat} (g : bG B) (hp : ∀ i, i < B.2.2.2.2.1 → ∃ p, p < 32 ∧ B.2.2.2.2.2.2 i = Int32.ofNat p) (he : 0 < e) (hk : k ≤ S.1)
    (h : q.1 ≤ sfb S (sfd e k p) k ∨ sfv B S set (sfd e k p) k = false) : ∀ n, n ≤ e ^ (S.1 - k) → sfs B S set e (p * e ^ (S.1 - k)) n q = q
  | 0, _ => rfl
  | n + 1, hn => by
    have ih := sfs_no (q := q) g hp he hk h n (by omega)
    show sf1 B S set e (p * e ^ (S.1 - k) + n) (sfs B S set e (p * e ^ (S.1 - k)) n q) = q
    rw [ih]; exact sf1_no g hp he hk (by omega) h
/-- the rows from note k on, by the shift of note k -/
theorem sfs_split {B : PB} {S : SC} {set : Int32} {e k p s r : Nat} {q : Nat × Nat} (hr : k + (r + 1) = S.1) : sfs B S set e (p * e ^ (r + 1)) ((s + 1) * e ^ r) q = sfs B S set e ((p * e + s) * e ^ (S.1 - (k + 1))) (e ^ (S.1 - (k + 1))) (sfs B S set e (p * e ^ (r + 1)) (s * e ^ r) q) := by
  rw [show S.1 - (k + 1) = r by omega, Nat.add_mul s 1, Nat.one_mul, sfs_add]
  congr 1
  rw [Nat.pow_succ, Nat.add_mul, Nat.mul_assoc, Nat.mul_comm e]
/-- from a shift on that cannot do, none does -/
theorem sfs_rest {B : PB} {S : SC} {set : Int32} {e k p r s : Nat} {q : Nat × Nat} (g : bG B) (hp : ∀ i, i < B.2.2.2.2.1 → ∃ p, p < 32 ∧ B.2.2.2.2.2.2 i = Int32.ofNat p) (he : 0 < e) (hr : k + (r + 1) = S.1)
    (h : ∀ s', s ≤ s' → s' < e → (sfs B S set e (p * e ^ (r + 1)) (s * e ^ r) q).1 ≤ sfb S (sfd e (k + 1) (p * e + s')) (k + 1)) : ∀ n, s + n ≤ e → sfs B S set e (p * e ^ (r + 1)) ((s + n) * e ^ r) q = sfs B S set e (p * e ^ (r + 1)) (s * e ^ r) q
  | 0, _ => rfl
  | n + 1, hn => by
    have ih := sfs_rest g hp he hr h n (by omega)
    rw [← Nat.add_assoc, sfs_split (s := s + n) hr, ih]
    exact sfs_no g hp he (by omega) (.inl (h (s + n) (by omega) (by omega))) _ (Nat.le_refl _)
theorem sfb_step {S : SC} {e k p s : Nat} (he : 0 < e) (hs : s < e) : sfb S (sfd e (k + 1) (p * e + s)) (k + 1) = sfb S (sfd e k p) k + (if S.2.2.1 k + s + S.2.2.2 k ≤ 12 then s else 1000000) := by
  have h : sfb S (sfd e (k + 1) (p * e + s)) k = sfb S (sfd e k p) k := sfb_congr k (fun j hj => sfd_up he hj hs)
  rw [← h, sfb, fo, sfd_top hs, sfb]
end
