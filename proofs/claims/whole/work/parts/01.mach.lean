/-! THE ABSTRACT MACHINE: cells by number, a heap as a function, a step of each instruction as a transformer of predicates -/
abbrev zL : Type := List (Option Value)
abbrev zC : Type := (Nat × vp_A) ⊕ (Nat × List Value)
abbrev zH : Type := Nat → zC
abbrev zQ : Type := Nat → Option Value → zH → Nat → Prop
abbrev zP : Type := Nat → zL → List Value → zH → Nat → Nat → Nat → Prop
abbrev zK : Type := Nat → List Value → zH → Nat → zQ → Prop
abbrev zT : Type := zK → zQ → zP → zL → List Value → zH → Nat → Nat → Nat → Prop
def zget : zL → Nat → Option Value
  | [], _ => none
  | a :: _, 0 => a
  | _ :: l, i + 1 => zget l i
def zset : zL → Nat → Value → zL
  | [], _, _ => []
  | _ :: l, 0, v => some v :: l
  | a :: l, i + 1, v => a :: zset l i v
def zclr : zL → Nat → zL
  | [], _ => []
  | _ :: l, 0 => none :: l
  | a :: l, i + 1 => a :: zclr l i
def zclrs (l : zL) : List Nat → zL
  | [] => l
  | i :: is => zclrs (zclr l i) is
/-- no value of two words lies just ahead of the place i -/
def zok (l : zL) : Nat → Bool
  | 0 => true
  | i + 1 => match zget l i with
    | some (.long _) => false
    | some (.double _) => false
    | _ => true
def zupd (h : zH) (a : Nat) (c : zC) : zH := fun b => if b = a then c else h b
/-- how many cells and slots a method may make: cells by its number -/
def zpop : Nat → List Value → List Value → Option (List Value × List Value)
  | 0, acc, st => some (acc, st)
  | _ + 1, _, [] => none
  | k + 1, acc, v :: st => zpop k (v :: acc) st
/-- the words of a stack fit into k -/
def zsm : List Value → Nat → Bool
  | [], _ => true
  | v :: s, k => match v with
    | .long _ => (match k with
      | k' + 2 => zsm s k'
      | _ => false)
    | .double _ => (match k with
      | k' + 2 => zsm s k'
      | _ => false)
    | _ => (match k with
      | k' + 1 => zsm s k'
      | 0 => false)
-- loads, stores
def zt_iload (i nx : Nat) : zT := fun _ _ P ls st h n cu su => match zget ls i with
  | some (.int x) => P nx ls (.int x :: st) h n cu su
  | _ => False
def zt_aload (i nx : Nat) : zT := fun _ _ P ls st h n cu su => match zget ls i with
  | some (.ref x) => P nx ls (.ref x :: st) h n cu su
  | _ => False
def zt_lload (i nx : Nat) : zT := fun _ _ P ls st h n cu su => match zget ls i with
  | some (.long x) => P nx ls (.long x :: st) h n cu su
  | _ => False
def zt_dload (i nx : Nat) : zT := fun _ _ P ls st h n cu su => match zget ls i with
  | some (.double x) => P nx ls (.double x :: st) h n cu su
  | _ => False
def zt_istore (i nx : Nat) : zT := fun _ _ P ls st h n cu su => match st with
  | .int x :: s => match zok ls i with
    | true => P nx (zset ls i (.int x)) s h n cu su
    | false => False
  | _ => False
def zt_astore (i nx : Nat) : zT := fun _ _ P ls st h n cu su => match st with
  | .ref x :: s => match zok ls i with
    | true => P nx (zset ls i (.ref x)) s h n cu su
    | false => False
  | _ => False
def zt_lstore (i nx : Nat) : zT := fun _ _ P ls st h n cu su => match st with
  | .long x :: s => match zok ls i with
    | true => P nx (zclr (zset ls i (.long x)) (i + 1)) s h n cu su
    | false => False
  | _ => False
def zt_dstore (i nx : Nat) : zT := fun _ _ P ls st h n cu su => match st with
  | .double x :: s => match zok ls i with
    | true => P nx (zclr (zset ls i (.double x)) (i + 1)) s h n cu su
    | false => False
  | _ => False
def zt_iinc (i : Nat) (k : Int) (nx : Nat) : zT := fun _ _ P ls st h n cu su => match zget ls i with
  | some (.int x) => match zok ls i with
    | true => P nx (zset ls i (.int (x + Int32.ofInt k))) st h n cu su
    | false => False
  | _ => False
-- constants
def zt_iconst (v : Int32) (nx : Nat) : zT := fun _ _ P ls st h n cu su => P nx ls (.int v :: st) h n cu su
def zt_lconst (v : Int64) (nx : Nat) : zT := fun _ _ P ls st h n cu su => P nx ls (.long v :: st) h n cu su
def zt_dconst (v : UInt64) (nx : Nat) : zT := fun _ _ P ls st h n cu su => P nx ls (.double v :: st) h n cu su
def zt_null (nx : Nat) : zT := fun _ _ P ls st h n cu su => P nx ls (.null :: st) h n cu su
-- arithmetic
def zt_iadd (nx : Nat) : zT := fun _ _ P ls st h n cu su => match st with
  | .int b :: .int a :: s => P nx ls (.int (a + b) :: s) h n cu su
  | _ => False
def zt_isub (nx : Nat) : zT := fun _ _ P ls st h n cu su => match st with
  | .int b :: .int a :: s => P nx ls (.int (a - b) :: s) h n cu su
  | _ => False
def zt_imul (nx : Nat) : zT := fun _ _ P ls st h n cu su => match st with
  | .int b :: .int a :: s => P nx ls (.int (a * b) :: s) h n cu su
  | _ => False
def zt_iand (nx : Nat) : zT := fun _ _ P ls st h n cu su => match st with
  | .int b :: .int a :: s => P nx ls (.int (a &&& b) :: s) h n cu su
  | _ => False
def zt_ladd (nx : Nat) : zT := fun _ _ P ls st h n cu su => match st with
  | .long b :: .long a :: s => P nx ls (.long (a + b) :: s) h n cu su
  | _ => False
def zt_lmul (nx : Nat) : zT := fun _ _ P ls st h n cu su => match st with
  | .long b :: .long a :: s => P nx ls (.long (a * b) :: s) h n cu su
  | _ => False
def zt_i2l (nx : Nat) : zT := fun _ _ P ls st h n cu su => match st with
  | .int a :: s => P nx ls (.long a.toInt64 :: s) h n cu su
  | _ => False
def zt_i2d (nx : Nat) : zT := fun _ _ P ls st h n cu su => match st with
  | .int a :: s => P nx ls (.double (FP.i2d a) :: s) h n cu su
  | _ => False
def zt_ddiv (nx : Nat) : zT := fun _ _ P ls st h n cu su => match st with
  | .double b :: .double a :: s => vf_n64 (FP.ddiv a b) ∧ P nx ls (.double (FP.ddiv a b) :: s) h n cu su
  | _ => False
def zt_dcmp (op : CmpOp) (nx : Nat) : zT := fun _ _ P ls st h n cu su => match st with
  | .double b :: .double a :: s => P nx ls (.int (Op.cmpValue (FP.dcmp a b) op) :: s) h n cu su
  | _ => False
/-- lcmp and the test behind it that asks for equality, in one -/
def zt_leq (eq ne : Nat) : zT := fun _ _ P ls st h n cu su => match st with
  | .long b :: .long a :: s => (a = b → P eq ls s h n cu su) ∧ (¬ a = b → P ne ls s h n cu su)
  | _ => False
def zt_pop (nx : Nat) : zT := fun _ _ P ls st h n cu su => match st with
  | .int _ :: s => P nx ls s h n cu su
  | .ref _ :: s => P nx ls s h n cu su
  | _ => False
def zt_dup (nx : Nat) : zT := fun _ _ P ls st h n cu su => match st with
  | .int a :: s => P nx ls (.int a :: .int a :: s) h n cu su
  | .ref a :: s => P nx ls (.ref a :: .ref a :: s) h n cu su
  | _ => False
def zt_dup2 (nx : Nat) : zT := fun _ _ P ls st h n cu su => match st with
  | .int b :: .ref a :: s => P nx ls (.int b :: .ref a :: .int b :: .ref a :: s) h n cu su
  | _ => False
-- branches; cl: what is forgotten of the locals where it goes
def zt_goto (tgt : Nat) (cl : List Nat) : zT := fun _ _ P ls st h n cu su => P tgt (zclrs ls cl) st h n cu su
def zt_ifeq (tgt nx : Nat) : zT := fun _ _ P ls st h n cu su => match st with
  | .int a :: s => (a = 0 → P tgt ls s h n cu su) ∧ (¬ a = 0 → P nx ls s h n cu su)
  | _ => False
def zt_ifne (tgt nx : Nat) : zT := fun _ _ P ls st h n cu su => match st with
  | .int a :: s => (¬ a = 0 → P tgt ls s h n cu su) ∧ (a = 0 → P nx ls s h n cu su)
  | _ => False
def zt_iflt (tgt nx : Nat) : zT := fun _ _ P ls st h n cu su => match st with
  | .int a :: s => (a < 0 → P tgt ls s h n cu su) ∧ (¬ a < 0 → P nx ls s h n cu su)
  | _ => False
def zt_ifle (tgt nx : Nat) : zT := fun _ _ P ls st h n cu su => match st with
  | .int a :: s => (a ≤ 0 → P tgt ls s h n cu su) ∧ (¬ a ≤ 0 → P nx ls s h n cu su)
  | _ => False
def zt_ifgt (tgt nx : Nat) : zT := fun _ _ P ls st h n cu su => match st with
  | .int a :: s => (0 < a → P tgt ls s h n cu su) ∧ (¬ 0 < a → P nx ls s h n cu su)
  | _ => False
def zt_ifge (tgt nx : Nat) : zT := fun _ _ P ls st h n cu su => match st with
  | .int a :: s => (0 ≤ a → P tgt ls s h n cu su) ∧ (¬ 0 ≤ a → P nx ls s h n cu su)
  | _ => False
def zt_icmpeq (tgt nx : Nat) : zT := fun _ _ P ls st h n cu su => match st with
  | .int b :: .int a :: s => (a = b → P tgt ls s h n cu su) ∧ (¬ a = b → P nx ls s h n cu su)
  | _ => False
def zt_icmpne (tgt nx : Nat) : zT := fun _ _ P ls st h n cu su => match st with
  | .int b :: .int a :: s => (¬ a = b → P tgt ls s h n cu su) ∧ (a = b → P nx ls s h n cu su)
  | _ => False
def zt_icmplt (tgt nx : Nat) : zT := fun _ _ P ls st h n cu su => match st with
  | .int b :: .int a :: s => (a < b → P tgt ls s h n cu su) ∧ (¬ a < b → P nx ls s h n cu su)
  | _ => False
def zt_icmpge (tgt nx : Nat) : zT := fun _ _ P ls st h n cu su => match st with
  | .int b :: .int a :: s => (b ≤ a → P tgt ls s h n cu su) ∧ (¬ b ≤ a → P nx ls s h n cu su)
  | _ => False
def zt_icmpgt (tgt nx : Nat) : zT := fun _ _ P ls st h n cu su => match st with
  | .int b :: .int a :: s => (b < a → P tgt ls s h n cu su) ∧ (¬ b < a → P nx ls s h n cu su)
  | _ => False
def zt_icmple (tgt nx : Nat) : zT := fun _ _ P ls st h n cu su => match st with
  | .int b :: .int a :: s => (a ≤ b → P tgt ls s h n cu su) ∧ (¬ a ≤ b → P nx ls s h n cu su)
  | _ => False
def zt_ifnull (nx : Nat) : zT := fun _ _ P ls st h n cu su => match st with
  | .ref _ :: s => P nx ls s h n cu su
  | _ => False
/-- a switch of a few keys, the default last -/
def zt_lookup (ps : List (Int32 × Nat)) (dflt : Nat) : zT := fun _ _ P ls st h n cu su => match st with
  | .int a :: s => (∀ q ∈ ps, a = q.1 → P q.2 ls s h n cu su) ∧ ((∀ q ∈ ps, ¬ a = q.1) → P dflt ls s h n cu su)
  | _ => False
-- cells
def zt_getf (ci k nx : Nat) : zT := fun _ _ P ls st h n cu su => match st with
  | .ref b :: s => ∃ fs, h b = .inr (ci, fs) ∧ ∃ v, fs[k]? = some v ∧ P nx ls (v :: s) h n cu su
  | _ => False
def zt_putf (ci k : Nat) (ty : FieldType) (nx : Nat) : zT := fun _ _ P ls st h n cu su => match st with
  | v :: .ref b :: s => ∃ fs, h b = .inr (ci, fs) ∧ k < fs.length ∧ (narrow ty v = v ∧ fits ty v = true) ∧ P nx ls s (zupd h b (.inr (ci, fs.set k v))) n cu su
  | _ => False
def zt_iald (nx : Nat) : zT := fun _ _ P ls st h n cu su => match st with
  | .int i :: .ref a :: s => ∃ k f, h a = .inl (0, k, .inl f) ∧ vp_in i k ∧ P nx ls (.int (f i.toNatClampNeg) :: s) h n cu su
  | _ => False
def zt_zald (nx : Nat) : zT := fun _ _ P ls st h n cu su => match st with
  | .int i :: .ref a :: s => ∃ k f, h a = .inl (1, k, .inl f) ∧ vp_in i k ∧ P nx ls (.int (f i.toNatClampNeg) :: s) h n cu su
  | _ => False
def zt_lald (nx : Nat) : zT := fun _ _ P ls st h n cu su => match st with
  | .int i :: .ref a :: s => ∃ k f, h a = .inl (2, k, .inr (.inl f)) ∧ vp_in i k ∧ P nx ls (.long (f i.toNatClampNeg) :: s) h n cu su
  | _ => False
def zt_dald (nx : Nat) : zT := fun _ _ P ls st h n cu su => match st with
  | .int i :: .ref a :: s => ∃ k f, h a = .inl (3, k, .inr (.inr (.inr (.inl f)))) ∧ vp_in i k ∧ P nx ls (.double (f i.toNatClampNeg) :: s) h n cu su
  | _ => False
def zt_aald (nx : Nat) : zT := fun _ _ P ls st h n cu su => match st with
  | .int i :: .ref a :: s => ∃ k f, h a = .inl (4, k, .inr (.inr (.inr (.inr f)))) ∧ vp_in i k ∧ P nx ls (va_rf (f i.toNatClampNeg) :: s) h n cu su
  | _ => False
def zt_iast (nx : Nat) : zT := fun _ _ P ls st h n cu su => match st with
  | .int x :: .int i :: .ref a :: s => ∃ k f, h a = .inl (0, k, .inl f) ∧ vp_in i k ∧ P nx ls s (zupd h a (.inl (0, k, .inl (upd f i.toNatClampNeg x)))) n cu su
  | _ => False
def zt_zast (nx : Nat) : zT := fun _ _ P ls st h n cu su => match st with
  | .int x :: .int i :: .ref a :: s => ∃ k f, h a = .inl (1, k, .inl f) ∧ vp_in i k ∧ P nx ls s (zupd h a (.inl (1, k, .inl (upd f i.toNatClampNeg (vp_nar .boolean x))))) n cu su
  | _ => False
def zt_last (nx : Nat) : zT := fun _ _ P ls st h n cu su => match st with
  | .long x :: .int i :: .ref a :: s => ∃ k f, h a = .inl (2, k, .inr (.inl f)) ∧ vp_in i k ∧ P nx ls s (zupd h a (.inl (2, k, .inr (.inl (vp_updL f i.toNatClampNeg x))))) n cu su
  | _ => False
def zt_dast (nx : Nat) : zT := fun _ _ P ls st h n cu su => match st with
  | .double x :: .int i :: .ref a :: s => ∃ k f, h a = .inl (3, k, .inr (.inr (.inr (.inl f)))) ∧ vp_in i k ∧ P nx ls s (zupd h a (.inl (3, k, .inr (.inr (.inr (.inl (vf_upd f i.toNatClampNeg x))))))) n cu su
  | _ => False
/-- a cell of the class of number ci goes into an array of references -/
def zt_aast (ci nx : Nat) : zT := fun _ _ P ls st h n cu su => match st with
  | .ref v :: .int i :: .ref a :: s => ∃ k f, h a = .inl (4, k, .inr (.inr (.inr (.inr f)))) ∧ (∃ fs, h v = .inr (ci, fs)) ∧ vp_in i k ∧ P nx ls s (zupd h a (.inl (4, k, .inr (.inr (.inr (.inr (va_up f i.toNatClampNeg (some v)))))))) n cu su
  | _ => False
def zt_alen (nx : Nat) : zT := fun _ _ P ls st h n cu su => match st with
  | .ref a :: s => ∃ t x, h a = .inl (t, x) ∧ t < 5 ∧ P nx ls (.int (Int32.ofNat x.1) :: s) h n cu su
  | _ => False
/-- the room that a method has for what it makes -/
def zfit (lim : Nat × Nat) (cu su : Nat) : Bool := Nat.ble cu lim.1 && Nat.ble su lim.2
def zt_newi (lim : Nat × Nat) (nx : Nat) : zT := fun _ _ P ls st h n cu su => match st with
  | .int k :: s => ¬ k < 0 ∧ k.toNatClampNeg ≤ 1000 ∧ zfit lim (cu + 1) (su + k.toNatClampNeg) = true ∧ P nx ls (.ref n :: s) (zupd h n (.inl (0, k.toNatClampNeg, .inl (fun _ => 0)))) (n + 1) (cu + 1) (su + k.toNatClampNeg)
  | _ => False
def zt_newz (lim : Nat × Nat) (nx : Nat) : zT := fun _ _ P ls st h n cu su => match st with
  | .int k :: s => ¬ k < 0 ∧ k.toNatClampNeg ≤ 1000 ∧ zfit lim (cu + 1) (su + k.toNatClampNeg) = true ∧ P nx ls (.ref n :: s) (zupd h n (.inl (1, k.toNatClampNeg, .inl (fun _ => 0)))) (n + 1) (cu + 1) (su + k.toNatClampNeg)
  | _ => False
def zt_newl (lim : Nat × Nat) (nx : Nat) : zT := fun _ _ P ls st h n cu su => match st with
  | .int k :: s => ¬ k < 0 ∧ k.toNatClampNeg ≤ 1000 ∧ zfit lim (cu + 1) (su + k.toNatClampNeg) = true ∧ P nx ls (.ref n :: s) (zupd h n (.inl (2, k.toNatClampNeg, .inr (.inl (fun _ => 0))))) (n + 1) (cu + 1) (su + k.toNatClampNeg)
  | _ => False
def zt_newd (lim : Nat × Nat) (nx : Nat) : zT := fun _ _ P ls st h n cu su => match st with
  | .int k :: s => ¬ k < 0 ∧ k.toNatClampNeg ≤ 1000 ∧ zfit lim (cu + 1) (su + k.toNatClampNeg) = true ∧ P nx ls (.ref n :: s) (zupd h n (.inl (3, k.toNatClampNeg, .inr (.inr (.inr (.inl (fun _ => 0))))))) (n + 1) (cu + 1) (su + k.toNatClampNeg)
  | _ => False
def zt_newa (lim : Nat × Nat) (nx : Nat) : zT := fun _ _ P ls st h n cu su => match st with
  | .int k :: s => ¬ k < 0 ∧ k.toNatClampNeg ≤ 1000 ∧ zfit lim (cu + 1) (su + k.toNatClampNeg) = true ∧ P nx ls (.ref n :: s) (zupd h n (.inl (4, k.toNatClampNeg, .inr (.inr (.inr (.inr (fun _ => none))))))) (n + 1) (cu + 1) (su + k.toNatClampNeg)
  | _ => False
/-- a new object of the class of number ci, whose fields begin as fs -/
def zt_new (ci : Nat) (fs : List Value) (lim : Nat × Nat) (nx : Nat) : zT := fun _ _ P ls st h n cu su =>
  zfit lim (cu + 1) (su + fs.length) = true ∧ P nx ls (.ref n :: st) (zupd h n (.inr (ci, fs))) (n + 1) (cu + 1) (su + fs.length)
def zt_objinit (nx : Nat) : zT := fun _ _ P ls st h n cu su => match st with
  | .ref _ :: s => (match zsm s 8 with
    | true => P nx ls s h n cu su
    | false => False)
  | _ => False
def zback (P : zP) (nx : Nat) (ls : zL) (s : List Value) (cu su : Nat) : zQ := fun x r h n => match x with
  | 0 => match r with
    | some v => P nx ls (v :: s) h n cu su
    | none => P nx ls s h n cu su
  | _ + 1 => False
/-- a call of the method of number y with k arguments (the object first), which makes nothing -/
def zt_call (y k nx : Nat) : zT := fun C _ P ls st h n cu su => match zpop k [] st with
  | some (as, s) => (match zsm s 8 with
    | true => C y as h n (zback P nx ls s cu su)
    | false => False)
  | none => False
/-- .. of an object's own method: the object's class has the number ci -/
def zt_callv (ci y k nx : Nat) : zT := fun C _ P ls st h n cu su => match zpop k [] st with
  | some (.ref b :: as, s) => (match zsm s 8 with
    | true => ∃ fs, h b = .inr (ci, fs) ∧ C y (.ref b :: as) h n (zback P nx ls s cu su)
    | false => False)
  | _ => False
/-- a call of a method that may make cells: mk of them, with sk slots -/
def zt_callm (y k mk sk : Nat) (lim : Nat × Nat) (nx : Nat) : zT := fun C _ P ls st h n cu su => match zpop k [] st with
  | some (as, s) => (match zsm s 8 with
    | true => zfit lim (cu + mk) (su + sk) = true ∧ C y as h n (zback P nx ls s (cu + mk) (su + sk))
    | false => False)
  | none => False
/-- where an exception of the kind e goes on: the local that takes it, the place behind -/
def zhs : List (Nat × Nat × Nat) → Nat → Option (Nat × Nat)
  | [], _ => none
  | (x, i, tgt) :: l, e => match Nat.beq x e with
    | true => some (i, tgt)
    | false => zhs l e
def zbackx (P : zP) (nx : Nat) (ls : zL) (s : List Value) (hs : List (Nat × Nat × Nat)) (cu su : Nat) : zQ := fun x r h n => match x with
  | 0 => match r with
    | some v => P nx ls (v :: s) h n cu su
    | none => P nx ls s h n cu su
  | e + 1 => match zhs hs e with
    | some (i, tgt) => (match zok ls i with
      | true => P tgt (zclr ls i) [] h n cu su
      | false => False)
    | none => False
/-- a call of an object's own method that may throw; hs: for each kind of exception where it goes on, behind the handler's first instruction, which drops it -/
def zt_callx (ci y k mk sk : Nat) (lim : Nat × Nat) (hs : List (Nat × Nat × Nat)) (nx : Nat) : zT := fun C _ P ls st h n cu su => match zpop k [] st with
  | some (.ref b :: as, s) => (match zsm s 8 with
    | true => zfit lim (cu + mk) (su + sk) = true ∧ ∃ fs, h b = .inr (ci, fs) ∧ C y (.ref b :: as) h n (zbackx P nx ls s hs (cu + mk) (su + sk))
    | false => False)
  | _ => False
/-- a call of an object's own method that may make cells -/
def zt_callvm (ci y k mk sk : Nat) (lim : Nat × Nat) (nx : Nat) : zT := fun C _ P ls st h n cu su => match zpop k [] st with
  | some (.ref b :: as, s) => (match zsm s 8 with
    | true => zfit lim (cu + mk) (su + sk) = true ∧ ∃ fs, h b = .inr (ci, fs) ∧ C y (.ref b :: as) h n (zback P nx ls s (cu + mk) (su + sk))
    | false => False)
  | _ => False
def zt_imax (nx : Nat) : zT := fun _ _ P ls st h n cu su => match st with
  | .int b :: .int a :: s => (match zsm s 8 with
    | true => P nx ls (.int (if a < b then b else a) :: s) h n cu su
    | false => False)
  | _ => False
def zt_imin (nx : Nat) : zT := fun _ _ P ls st h n cu su => match st with
  | .int b :: .int a :: s => (match zsm s 8 with
    | true => P nx ls (.int (if b < a then b else a) :: s) h n cu su
    | false => False)
  | _ => False
/-- 'throw new E("..")', all of it -/
def zt_throw (x : Nat) (lim : Nat × Nat) : zT := fun _ R _ _ st h n cu su => match st with
  | [] => zfit lim (cu + 1) (su + 6) = true ∧ R (x + 1) none h n
  | _ => False
-- ends
def zt_iret : zT := fun _ R _ _ st h n _ _ => match st with
  | [.int v] => R 0 (some (.int v)) h n
  | _ => False
def zt_zret : zT := fun _ R _ _ st h n _ _ => match st with
  | [.int v] => (v = 0 ∨ v = 1) ∧ R 0 (some (.int v)) h n
  | _ => False
def zt_lret : zT := fun _ R _ _ st h n _ _ => match st with
  | [.long v] => R 0 (some (.long v)) h n
  | _ => False
def zt_dret : zT := fun _ R _ _ st h n _ _ => match st with
  | [.double v] => R 0 (some (.double v)) h n
  | _ => False
def zt_aret : zT := fun _ R _ _ st h n _ _ => match st with
  | [.ref v] => R 0 (some (.ref v)) h n
  | _ => False
def zt_vret : zT := fun _ R _ _ st h n _ _ => match st with
  | [] => R 0 none h n
  | _ => False
-- a method's table: its instructions by their places
def zlk : List (Nat × zT) → Nat → Option zT
  | [], _ => none
  | (q, t) :: l, pc => match Nat.beq q pc with
    | true => some t
    | false => zlk l pc
/-- a table in pieces of 64 places -/
def zfet (T : List (List (Nat × zT))) (pc : Nat) : Option zT := match T[pc / 64]? with
  | some l => zlk l pc
  | none => none
def zstep (T : List (List (Nat × zT))) (C : zK) (R : zQ) (P : zP) : zP := fun pc ls st h n cu su => match zfet T pc with
  | some t => t C R P ls st h n cu su
  | none => False
/-- steps until one comes to a place of 'cut', or k are done -/
def zrun (T : List (List (Nat × zT))) (C : zK) (R : zQ) (P : zP) (cut : List Nat) : Nat → zP
  | 0 => P
  | k + 1 => fun pc ls st h n cu su => match cut.elem pc with
    | true => P pc ls st h n cu su
    | false => match zfet T pc with
      | some t => t C R (zrun T C R P cut k) ls st h n cu su
      | none => False
/-- a transformer grows with what it asks of the next state -/
def zmono (t : zT) : Prop := ∀ (C : zK) (R : zQ) (P P' : zP), (∀ y as h n (Q Q' : zQ), (∀ x r h n, Q x r h n → Q' x r h n) → C y as h n Q → C y as h n Q') → (∀ pc ls st h n cu su, P pc ls st h n cu su → P' pc ls st h n cu su) → ∀ ls st h n cu su, t C R P ls st h n cu su → t C R P' ls st h n cu su
