section
/-! THE ABSTRACT MACHINE: cells by number, a heap as a function, a step of each instruction as a transformer of predicates -/
abbrev zL : Type := List (Option Value)
abbrev zC : Type := (Nat × vp_A) ⊕ (Nat × List Value)
abbrev zH : Type := Nat → zC
abbrev zQ : Type := Nat → Option Value → zH → Nat → Prop
abbrev zP : Type := Nat → zL → List Value → zH → Nat → Nat → Nat → Prop
abbrev zK : Type := Nat → List Value → zH → Nat → zQ → Prop
abbrev zT : Type := zK → zQ → zP → zL → List Value → zH → Nat → Nat → Nat → Prop
def zget : zL → Nat → Option Value
  | [], _ => none
  | a :: _, 0 => a
  | _ :: l, i + 1 => zget l i
def zset : zL → Nat → Value → zL
  | [], _, _ => []
  | _ :: l, 0, v => some v :: l
  | a :: l, i + 1, v => a :: zset l i v
def zclr : zL → Nat → zL
  | [], _ => []
  | _ :: l, 0 => none :: l
  | a :: l, i + 1 => a :: zclr l i
def zclrs (l : zL) : List Nat → zL
  | [] => l
  | i :: is => zclrs (zclr l i) is
/-- no value of two words lies just ahead of the place i -/
def zok (l : zL) : Nat → Bool
  | 0 => true
  | i + 1 => match zget l i with
    | some (.long _) => false
    | some (.double _) => false
    | _ => true
def zupd (h : zH) (a : Nat) (c : zC) : zH := fun b => if b = a then c else h b
/-- how many cells and slots a method may make: cells by its number -/
def zpop : Nat → List Value → List Value → Option (List Value × List Value)
  | 0, acc, st => some (acc, st)
  | _ + 1, _, [] => none
  | k + 1, acc, v :: st => zpop k (v :: acc) st
/-- the words of a stack fit into k -/
def zsm : List Value → Nat → Bool
  | [], _ => true
  | v :: s, k => match v with
    | .long _ => (match k with
      | k' + 2 => zsm s k'
      | _ => false)
    | .double _ => (match k with
      | k' + 2 => zsm s k'
      | _ => false)
    | _ => (match k with
      | k' + 1 => zsm s k'
      | 0 => false)
-- loads, stores
def zt_iload (i nx : Nat) : zT := fun _ _ P ls st h n cu su => match zget ls i with
  | some (.int x) => P nx ls (.int x :: st) h n cu su
  | _ => False
def zt_aload (i nx : Nat) : zT := fun _ _ P ls st h n cu su => match zget ls i with
  | some (.ref x) => P nx ls (.ref x :: st) h n cu su
  | _ => False
def zt_lload (i nx : Nat) : zT := fun _ _ P ls st h n cu su => match zget ls i with
  | some (.long x) => P nx ls (.long x :: st) h n cu su
  | _ => False
def zt_dload (i nx : Nat) : zT := fun _ _ P ls st h n cu su => match zget ls i with
  | some (.double x) => P nx ls (.double x :: st) h n cu su
  | _ => False
def zt_istore (i nx : Nat) : zT := fun _ _ P ls st h n cu su => match st with
  | .int x :: s => match zok ls i with
    | true => P nx (zset ls i (.int x)) s h n cu su
    | false => False
  | _ => False
def zt_astore (i nx : Nat) : zT := fun _ _ P ls st h n cu su => match st with
  | .ref x :: s => match zok ls i with
    | true => P nx (zset ls i (.ref x)) s h n cu su
    | false => False
  | _ => False
def zt_lstore (i nx : Nat) : zT := fun _ _ P ls st h n cu su => match st with
  | .long x :: s => match zok ls i with
    | true => P nx (zclr (zset ls i (.long x)) (i + 1)) s h n cu su
    | false => False
  | _ => False
def zt_dstore (i nx : Nat) : zT := fun _ _ P ls st h n cu su => match st with
  | .double x :: s => match zok ls i with
    | true => P nx (zclr (zset ls i (.double x)) (i + 1)) s h n cu su
    | false => False
  | _ => False
def zt_iinc (i : Nat) (k : Int) (nx : Nat) : zT := fun _ _ P ls st h n cu su => match zget ls i with
  | some (.int x) => match zok ls i with
    | true => P nx (zset ls i (.int (x + Int32.ofInt k))) st h n cu su
    | false => False
  | _ => False
-- constants
def zt_iconst (v : Int32) (nx : Nat) : zT := fun _ _ P ls st h n cu su => P nx ls (.int v :: st) h n cu su
def zt_lconst (v : Int64) (nx : Nat) : zT := fun _ _ P ls st h n cu su => P nx ls (.long v :: st) h n cu su
def zt_dconst (v : UInt64) (nx : Nat) : zT := fun _ _ P ls st h n cu su => P nx ls (.double v :: st) h n cu su
def zt_null (nx : Nat) : zT := fun _ _ P ls st h n cu su => P nx ls (.null :: st) h n cu su
-- arithmetic
def zt_iadd (nx : Nat) : zT := fun _ _ P ls st h n cu su => match st with
  | .int b :: .int a :: s => P nx ls (.int (a + b) :: s) h n cu su
  | _ => False
def zt_isub (nx : Nat) : zT := fun _ _ P ls st h n cu su => match st with
  | .int b :: .int a :: s => P nx ls (.int (a - b) :: s) h n cu su
  | _ => False
def zt_imul (nx : Nat) : zT := fun _ _ P ls st h n cu su => match st with
  | .int b :: .int a :: s => P nx ls (.int (a * b) :: s) h n cu su
  | _ => False
def zt_iand (nx : Nat) : zT := fun _ _ P ls st h n cu su => match st with
  | .int b :: .int a :: s => P nx ls (.int (a &&& b) :: s) h n cu su
  | _ => False
def zt_ladd (nx : Nat) : zT := fun _ _ P ls st h n cu su => match st with
  | .long b :: .long a :: s => P nx ls (.long (a + b) :: s) h n cu su
  | _ => False
def zt_lmul (nx : Nat) : zT := fun _ _ P ls st h n cu su => match st with
  | .long b :: .long a :: s => P nx ls (.long (a * b) :: s) h n cu su
  | _ => False
def zt_i2l (nx : Nat) : zT := fun _ _ P ls st h n cu su => match st with
  | .int a :: s => P nx ls (.long a.toInt64 :: s) h n cu su
  | _ => False
def zt_i2d (nx : Nat) : zT := fun _ _ P ls st h n cu su => match st with
  | .int a :: s => P nx ls (.double (FP.i2d a) :: s) h n cu su
  | _ => False
def zt_ddiv (nx : Nat) : zT := fun _ _ P ls st h n cu su => match st with
  | .double b :: .double a :: s => vf_n64 (FP.ddiv a b) ∧ P nx ls (.double (FP.ddiv a b) :: s) h n cu su
  | _ => False
def zt_dcmp (op : CmpOp) (nx : Nat) : zT := fun _ _ P ls st h n cu su => match st with
  | .double b :: .double a :: s => P nx ls (.int (Op.cmpValue (FP.dcmp a b) op) :: s) h n cu su
  | _ => False
/-- lcmp and the test behind it that asks for equality, in one -/
def zt_leq (eq ne : Nat) : zT := fun _ _ P ls st h n cu su => match st with
  | .long b :: .long a :: s => (a = b → P eq ls s h n cu su) ∧ (¬ a = b → P ne ls s h n cu su)
  | _ => False
def zt_pop (nx : Nat) : zT := fun _ _ P ls st h n cu su => match st with
  | .int _ :: s => P nx ls s h n cu su
  | .ref _ :: s => P nx ls s h n cu su
  | _ => False
def zt_dup (nx : Nat) : zT := fun _ _ P ls st h n cu su => match st with
  | .int a :: s => P nx ls (.int a :: .int a :: s) h n cu su
  | .ref a :: s => P nx ls (.ref a :: .ref a :: s) h n cu su
  | _ => False
def zt_dup2 (nx : Nat) : zT := fun _ _ P ls st h n cu su => match st with
  | .int b :: .ref a :: s => P nx ls (.int b :: .ref a :: .int b :: .ref a :: s) h n cu su
  | _ => False
-- branches; cl: what is forgotten of the locals where it goes
def zt_goto (tgt : Nat) (cl : List Nat) : zT := fun _ _ P ls st h n cu su => P tgt (zclrs ls cl) st h n cu su
def zt_ifeq (tgt nx : Nat) : zT := fun _ _ P ls st h n cu su => match st with
  | .int a :: s => (a = 0 → P tgt ls s h n cu su) ∧ (¬ a = 0 → P nx ls s h n cu su)
  | _ => False
def zt_ifne (tgt nx : Nat) : zT := fun _ _ P ls st h n cu su => match st with
  | .int a :: s => (¬ a = 0 → P tgt ls s h n cu su) ∧ (a = 0 → P nx ls s h n cu su)
  | _ => False
def zt_iflt (tgt nx : Nat) : zT := fun _ _ P ls st h n cu su => match st with
  | .int a :: s => (a < 0 → P tgt ls s h n cu su) ∧ (¬ a < 0 → P nx ls s h n cu su)
  | _ => False
def zt_ifle (tgt nx : Nat) : zT := fun _ _ P ls st h n cu su => match st with
  | .int a :: s => (a ≤ 0 → P tgt ls s h n cu su) ∧ (¬ a ≤ 0 → P nx ls s h n cu su)
  | _ => False
def zt_ifgt (tgt nx : Nat) : zT := fun _ _ P ls st h n cu su => match st with
  | .int a :: s => (0 < a → P tgt ls s h n cu su) ∧ (¬ 0 < a → P nx ls s h n cu su)
  | _ => False
def zt_ifge (tgt nx : Nat) : zT := fun _ _ P ls st h n cu su => match st with
  | .int a :: s => (0 ≤ a → P tgt ls s h n cu su) ∧ (¬ 0 ≤ a → P nx ls s h n cu su)
  | _ => False
def zt_icmpeq (tgt nx : Nat) : zT := fun _ _ P ls st h n cu su => match st with
  | .int b :: .int a :: s => (a = b → P tgt ls s h n cu su) ∧ (¬ a = b → P nx ls s h n cu su)
  | _ => False
def zt_icmpne (tgt nx : Nat) : zT := fun _ _ P ls st h n cu su => match st with
  | .int b :: .int a :: s => (¬ a = b → P tgt ls s h n cu su) ∧ (a = b → P nx ls s h n cu su)
  | _ => False
def zt_icmplt (tgt nx : Nat) : zT := fun _ _ P ls st h n cu su => match st with
  | .int b :: .int a :: s => (a < b → P tgt ls s h n cu su) ∧ (¬ a < b → P nx ls s h n cu su)
  | _ => False
def zt_icmpge (tgt nx : Nat) : zT := fun _ _ P ls st h n cu su => match st with
  | .int b :: .int a :: s => (b ≤ a → P tgt ls s h n cu su) ∧ (¬ b ≤ a → P nx ls s h n cu su)
  | _ => False
def zt_icmpgt (tgt nx : Nat) : zT := fun _ _ P ls st h n cu su => match st with
  | .int b :: .int a :: s => (b < a → P tgt ls s h n cu su) ∧ (¬ b < a → P nx ls s h n cu su)
  | _ => False
def zt_icmple (tgt nx : Nat) : zT := fun _ _ P ls st h n cu su => match st with
  | .int b :: .int a :: s => (a ≤ b → P tgt ls s h n cu su) ∧ (¬ a ≤ b → P nx ls s h n cu su)
  | _ => False
def zt_ifnull (nx : Nat) : zT := fun _ _ P ls st h n cu su => match st with
  | .ref _ :: s => P nx ls s h n cu su
  | _ => False
/-- a switch of a few keys, the default last -/
def zt_lookup (ps : List (Int32 × Nat)) (dflt : Nat) : zT := fun _ _ P ls st h n cu su => match st with
  | .int a :: s => (∀ q ∈ ps, a = q.1 → P q.2 ls s h n cu su) ∧ ((∀ q ∈ ps, ¬ a = q.1) → P dflt ls s h n cu su)
  | _ => False
-- cells
def zt_getf (ci k nx : Nat) : zT := fun _ _ P ls st h n cu su => match st with
  | .ref b :: s => ∃ fs, h b = .inr (ci, fs) ∧ ∃ v, fs[k]? = some v ∧ P nx ls (v :: s) h n cu su
  | _ => False
def zt_putf (ci k : Nat) (ty : FieldType) (nx : Nat) : zT := fun _ _ P ls st h n cu su => match st with
  | v :: .ref b :: s => ∃ fs, h b = .inr (ci, fs) ∧ k < fs.length ∧ (narrow ty v = v ∧ fits ty v = true) ∧ P nx ls s (zupd h b (.inr (ci, fs.set k v))) n cu su
  | _ => False
def zt_iald (nx : Nat) : zT := fun _ _ P ls st h n cu su => match st with
  | .int i :: .ref a :: s => ∃ k f, h a = .inl (0, k, .inl f) ∧ vp_in i k ∧ P nx ls (.int (f i.toNatClampNeg) :: s) h n cu su
  | _ => False
def zt_zald (nx : Nat) : zT := fun _ _ P ls st h n cu su => match st with
  | .int i :: .ref a :: s => ∃ k f, h a = .inl (1, k, .inl f) ∧ vp_in i k ∧ P nx ls (.int (f i.toNatClampNeg) :: s) h n cu su
  | _ => False
def zt_lald (nx : Nat) : zT := fun _ _ P ls st h n cu su => match st with
  | .int i :: .ref a :: s => ∃ k f, h a = .inl (2, k, .inr (.inl f)) ∧ vp_in i k ∧ P nx ls (.long (f i.toNatClampNeg) :: s) h n cu su
  | _ => False
def zt_dald (nx : Nat) : zT := fun _ _ P ls st h n cu su => match st with
  | .int i :: .ref a :: s => ∃ k f, h a = .inl (3, k, .inr (.inr (.inr (.inl f)))) ∧ vp_in i k ∧ P nx ls (.double (f i.toNatClampNeg) :: s) h n cu su
  | _ => False
def zt_aald (nx : Nat) : zT := fun _ _ P ls st h n cu su => match st with
  | .int i :: .ref a :: s => ∃ k f, h a = .inl (4, k, .inr (.inr (.inr (.inr f)))) ∧ vp_in i k ∧ P nx ls (va_rf (f i.toNatClampNeg) :: s) h n cu su
  | _ => False
def zt_iast (nx : Nat) : zT := fun _ _ P ls st h n cu su => match st with
  | .int x :: .int i :: .ref a :: s => ∃ k f, h a = .inl (0, k, .inl f) ∧ vp_in i k ∧ P nx ls s (zupd h a (.inl (0, k, .inl (upd f i.toNatClampNeg x)))) n cu su
  | _ => False
def zt_zast (nx : Nat) : zT := fun _ _ P ls st h n cu su => match st with
  | .int x :: .int i :: .ref a :: s => ∃ k f, h a = .inl (1, k, .inl f) ∧ vp_in i k ∧ P nx ls s (zupd h a (.inl (1, k, .inl (upd f i.toNatClampNeg (vp_nar .boolean x))))) n cu su
  | _ => False
def zt_last (nx : Nat) : zT := fun _ _ P ls st h n cu su => match st with
  | .long x :: .int i :: .ref a :: s => ∃ k f, h a = .inl (2, k, .inr (.inl f)) ∧ vp_in i k ∧ P nx ls s (zupd h a (.inl (2, k, .inr (.inl (vp_updL f i.toNatClampNeg x))))) n cu su
  | _ => False
def zt_dast (nx : Nat) : zT := fun _ _ P ls st h n cu su => match st with
  | .double x :: .int i :: .ref a :: s => ∃ k f, h a = .inl (3, k, .inr (.inr (.inr (.inl f)))) ∧ vp_in i k ∧ P nx ls s (zupd h a (.inl (3, k, .inr (.inr (.inr (.inl (vf_upd f i.toNatClampNeg x))))))) n cu su
  | _ => False
/-- a cell of the class of number ci goes into an array of references -/
def zt_aast (ci nx : Nat) : zT := fun _ _ P ls st h n cu su => match st with
  | .ref v :: .int i :: .ref a :: s => ∃ k f, h a = .inl (4, k, .inr (.inr (.inr (.inr f)))) ∧ (∃ fs, h v = .inr (ci, fs)) ∧ vp_in i k ∧ P nx ls s (zupd h a (.inl (4, k, .inr (.inr (.inr (.inr (va_up f i.toNatClampNeg (some v)))))))) n cu su
  | _ => False
def zt_alen (nx : Nat) : zT := fun _ _ P ls st h n cu su => match st with
  | .ref a :: s => ∃ t x, h a = .inl (t, x) ∧ t < 5 ∧ P nx ls (.int (Int32.ofNat x.1) :: s) h n cu su
  | _ => False
/-- the room that a method has for what it makes -/
def zfit (lim : Nat × Nat) (cu su : Nat) : Bool := Nat.ble cu lim.1 && Nat.ble su lim.2
def zt_newi (lim : Nat × Nat) (nx : Nat) : zT := fun _ _ P ls st h n cu su => match st with
  | .int k :: s => ¬ k < 0 ∧ k.toNatClampNeg ≤ 1000 ∧ zfit lim (cu + 1) (su + k.toNatClampNeg) = true ∧ P nx ls (.ref n :: s) (zupd h n (.inl (0, k.toNatClampNeg, .inl (fun _ => 0)))) (n + 1) (cu + 1) (su + k.toNatClampNeg)
  | _ => False
def zt_newz (lim : Nat × Nat) (nx : Nat) : zT := fun _ _ P ls st h n cu su => match st with
  | .int k :: s => ¬ k < 0 ∧ k.toNatClampNeg ≤ 1000 ∧ zfit lim (cu + 1) (su + k.toNatClampNeg) = true ∧ P nx ls (.ref n :: s) (zupd h n (.inl (1, k.toNatClampNeg, .inl (fun _ => 0)))) (n + 1) (cu + 1) (su + k.toNatClampNeg)
  | _ => False
def zt_newl (lim : Nat × Nat) (nx : Nat) : zT := fun _ _ P ls st h n cu su => match st with
  | .int k :: s => ¬ k < 0 ∧ k.toNatClampNeg ≤ 1000 ∧ zfit lim (cu + 1) (su + k.toNatClampNeg) = true ∧ P nx ls (.ref n :: s) (zupd h n (.inl (2, k.toNatClampNeg, .inr (.inl (fun _ => 0))))) (n + 1) (cu + 1) (su + k.toNatClampNeg)
  | _ => False
def zt_newd (lim : Nat × Nat) (nx : Nat) : zT := fun _ _ P ls st h n cu su => match st with
  | .int k :: s => ¬ k < 0 ∧ k.toNatClampNeg ≤ 1000 ∧ zfit lim (cu + 1) (su + k.toNatClampNeg) = true ∧ P nx ls (.ref n :: s) (zupd h n (.inl (3, k.toNatClampNeg, .inr (.inr (.inr (.inl (fun _ => 0))))))) (n + 1) (cu + 1) (su + k.toNatClampNeg)
  | _ => False
def zt_newa (lim : Nat × Nat) (nx : Nat) : zT := fun _ _ P ls st h n cu su => match st with
  | .int k :: s => ¬ k < 0 ∧ k.toNatClampNeg ≤ 1000 ∧ zfit lim (cu + 1) (su + k.toNatClampNeg) = true ∧ P nx ls (.ref n :: s) (zupd h n (.inl (4, k.toNatClampNeg, .inr (.inr (.inr (.inr (fun _ => none))))))) (n + 1) (cu + 1) (su + k.toNatClampNeg)
  | _ => False
/-- a new object of the class of number ci, whose fields begin as fs -/
def zt_new (ci : Nat) (fs : List Value) (lim : Nat × Nat) (nx : Nat) : zT := fun _ _ P ls st h n cu su =>
  zfit lim (cu + 1) (su + fs.length) = true ∧ P nx ls (.ref n :: st) (zupd h n (.inr (ci, fs))) (n + 1) (cu + 1) (su + fs.length)
def zt_objinit (nx : Nat) : zT := fun _ _ P ls st h n cu su => match st with
  | .ref _ :: s => (match zsm s 8 with
    | true => P nx ls s h n cu su
    | false => False)
  | _ => False
def zback (P : zP) (nx : Nat) (ls : zL) (s : List Value) (cu su : Nat) : zQ := fun x r h n => match x with
  | 0 => match r with
    | some v => P nx ls (v :: s) h n cu su
    | none => P nx ls s h n cu su
  | _ + 1 => False
/-- a call of the method of number y with k arguments (the object first), which makes nothing -/
def zt_call (y k nx : Nat) : zT := fun C _ P ls st h n cu su => match zpop k [] st with
  | some (as, s) => (match zsm s 8 with
    | true => C y as h n (zback P nx ls s cu su)
    | false => False)
  | none => False
/-- .. of an object's own method: the object's class has the number ci -/
def zt_callv (ci y k nx : Nat) : zT := fun C _ P ls st h n cu su => match zpop k [] st with
  | some (.ref b :: as, s) => (match zsm s 8 with
    | true => ∃ fs, h b = .inr (ci, fs) ∧ C y (.ref b :: as) h n (zback P nx ls s cu su)
    | false => False)
  | _ => False
/-- a call of a method that may make cells: mk of them, with sk slots -/
def zt_callm (y k mk sk : Nat) (lim : Nat × Nat) (nx : Nat) : zT := fun C _ P ls st h n cu su => match zpop k [] st with
  | some (as, s) => (match zsm s 8 with
    | true => zfit lim (cu + mk) (su + sk) = true ∧ C y as h n (zback P nx ls s (cu + mk) (su + sk))
    | false => False)
  | none => False
def zbackx (P : zP) (nx : Nat) (ls : zL) (s : List Value) (hs : List (Nat × Nat)) (cu su : Nat) : zQ := fun x r h n => match x with
  | 0 => match r with
    | some v => P nx ls (v :: s) h n cu su
    | none => P nx ls s h n cu su
  | e + 1 => match hs.lookup e with
    | some tgt => P tgt ls [] h n cu su
    | none => False
/-- a call of an object's own method that may throw; hs: for each kind of exception where it goes on, behind the handler's first instruction, which drops it -/
def zt_callx (ci y k mk sk : Nat) (lim : Nat × Nat) (hs : List (Nat × Nat)) (nx : Nat) : zT := fun C _ P ls st h n cu su => match zpop k [] st with
  | some (.ref b :: as, s) => (match zsm s 8 with
    | true => zfit lim (cu + mk) (su + sk) = true ∧ ∃ fs, h b = .inr (ci, fs) ∧ C y (.ref b :: as) h n (zbackx P nx ls s hs (cu + mk) (su + sk))
    | false => False)
  | _ => False
/-- a call of an object's own method that may make cells -/
def zt_callvm (ci y k mk sk : Nat) (lim : Nat × Nat) (nx : Nat) : zT := fun C _ P ls st h n cu su => match zpop k [] st with
  | some (.ref b :: as, s) => (match zsm s 8 with
    | true => zfit lim (cu + mk) (su + sk) = true ∧ ∃ fs, h b = .inr (ci, fs) ∧ C y (.ref b :: as) h n (zback P nx ls s (cu + mk) (su + sk))
    | false => False)
  | _ => False
def zt_imax (nx : Nat) : zT := fun _ _ P ls st h n cu su => match st with
  | .int b :: .int a :: s => (match zsm s 8 with
    | true => P nx ls (.int (if a < b then b else a) :: s) h n cu su
    | false => False)
  | _ => False
def zt_imin (nx : Nat) : zT := fun _ _ P ls st h n cu su => match st with
  | .int b :: .int a :: s => (match zsm s 8 with
    | true => P nx ls (.int (if b < a then b else a) :: s) h n cu su
    | false => False)
  | _ => False
/-- 'throw new E("..")', all of it -/
def zt_throw (x : Nat) (lim : Nat × Nat) : zT := fun _ R _ _ st h n cu su => match st with
  | [] => zfit lim (cu + 1) (su + 6) = true ∧ R (x + 1) none h n
  | _ => False
-- ends
def zt_iret : zT := fun _ R _ _ st h n _ _ => match st with
  | [.int v] => R 0 (some (.int v)) h n
  | _ => False
def zt_zret : zT := fun _ R _ _ st h n _ _ => match st with
  | [.int v] => (v = 0 ∨ v = 1) ∧ R 0 (some (.int v)) h n
  | _ => False
def zt_lret : zT := fun _ R _ _ st h n _ _ => match st with
  | [.long v] => R 0 (some (.long v)) h n
  | _ => False
def zt_dret : zT := fun _ R _ _ st h n _ _ => match st with
  | [.double v] => R 0 (some (.double v)) h n
  | _ => False
def zt_aret : zT := fun _ R _ _ st h n _ _ => match st with
  | [.ref v] => R 0 (some (.ref v)) h n
  | _ => False
def zt_vret : zT := fun _ R _ _ st h n _ _ => match st with
  | [] => R 0 none h n
  | _ => False
-- a method's table: its instructions by their places
def zlk : List (Nat × zT) → Nat → Option zT
  | [], _ => none
  | (q, t) :: l, pc => match Nat.beq q pc with
    | true => some t
    | false => zlk l pc
/-- a table in pieces of 64 places -/
def zfet (T : List (List (Nat × zT))) (pc : Nat) : Option zT := match T[pc / 64]? with
  | some l => zlk l pc
  | none => none
def zstep (T : List (List (Nat × zT))) (C : zK) (R : zQ) (P : zP) : zP := fun pc ls st h n cu su => match zfet T pc with
  | some t => t C R P ls st h n cu su
  | none => False
/-- steps until one comes to a place of 'cut', or k are done -/
def zrun (T : List (List (Nat × zT))) (C : zK) (R : zQ) (P : zP) (cut : List Nat) : Nat → zP
  | 0 => P
  | k + 1 => fun pc ls st h n cu su => match cut.elem pc with
    | true => P pc ls st h n cu su
    | false => match zfet T pc with
      | some t => t C R (zrun T C R P cut k) ls st h n cu su
      | none => False
/-- a transformer grows with what it asks of the next state -/
def zmono (t : zT) : Prop := ∀ (C : zK) (R : zQ) (P P' : zP), (∀ y as h n (Q Q' : zQ), (∀ x r h n, Q x r h n → Q' x r h n) → C y as h n Q → C y as h n Q') → (∀ pc ls st h n cu su, P pc ls st h n cu su → P' pc ls st h n cu su) → ∀ ls st h n cu su, t C R P ls st h n cu su → t C R P' ls st h n cu su
end
section
/-! WHAT THE ABSTRACT MACHINE SAYS OF THE REAL ONE -/
def zv (ad : Nat → Nat) : Value → Value
  | .ref a => .ref (ad a)
  | v => v
def zarr (ad : Nat → Nat) : vp_A → vp_A
  | (k, .inr (.inr (.inr (.inr f)))) => (k, .inr (.inr (.inr (.inr fun j => (f j).map ad))))
  | a => a
def zcell (ad : Nat → Nat) (dA : Nat → ClassId) : zC → va_E
  | .inl (t, a) => .inl (dA t, zarr ad a)
  | .inr (ci, fs) => .inr (ci, fs.map (zv ad))
def zW (dA : Nat → ClassId) (ad : Nat → Nat) (h : zH) (n : Nat) : va_W := (List.range n).map fun i => (ad i, zcell ad dA (h i))
def zlv (ad : Nat → Nat) : Nat → zL → List (Nat × Value)
  | _, [] => []
  | i, some v :: l => (i, zv ad v) :: zlv ad (i + 1) l
  | i, none :: l => zlv ad (i + 1) l
-- references are cells
def zwv (n : Nat) (v : Value) : Prop := ∀ a, v = .ref a → a < n
def zwa (n : Nat) : vp_A → Prop
  | (_, .inr (.inr (.inr (.inr f)))) => ∀ j a, f j = some a → a < n
  | _ => True
def zwc (n : Nat) : zC → Prop
  | .inl (_, a) => zwa n a
  | .inr (_, fs) => ∀ v ∈ fs, zwv n v
def zwh (n : Nat) (h : zH) : Prop := ∀ i, i < n → zwc n (h i)
def zwl (n : Nat) (ls : zL) : Prop := ∀ i v, zget ls i = some v → zwv n v
def zws (n : Nat) (st : List Value) : Prop := ∀ v ∈ st, zwv n v
theorem zwv_int {n : Nat} {x : Int32} : zwv n (.int x) := fun _ h => nomatch h
theorem zwv_long {n : Nat} {x : Int64} : zwv n (.long x) := fun _ h => nomatch h
theorem zwv_double {n : Nat} {x : UInt64} : zwv n (.double x) := fun _ h => nomatch h
theorem zwv_null {n : Nat} : zwv n .null := fun _ h => nomatch h
theorem zwv_ref {n a : Nat} (h : a < n) : zwv n (.ref a) := fun b hb => by cases hb; exact h
theorem zws_cons {n : Nat} {v : Value} {st : List Value} (h : zwv n v) (k : zws n st) : zws n (v :: st) := fun w hw => (List.mem_cons.mp hw).elim (fun e => by rw [e]; exact h) (k w)
theorem zws_tl {n : Nat} {v : Value} {st : List Value} (h : zws n (v :: st)) : zws n st := fun w hw => h w (List.mem_cons_of_mem _ hw)
theorem zws_hd {n : Nat} {v : Value} {st : List Value} (h : zws n (v :: st)) : zwv n v := h v List.mem_cons_self
theorem zws_ref {n a : Nat} {st : List Value} (h : zws n (.ref a :: st)) : a < n := zws_hd h a rfl
theorem zws_nil {n : Nat} : zws n [] := fun _ h => nomatch h
theorem zwv_up {n n' : Nat} {v : Value} (h : zwv n v) (k : n ≤ n') : zwv n' v := fun a e => Nat.lt_of_lt_of_le (h a e) k
theorem zws_up {n n' : Nat} {st : List Value} (h : zws n st) (k : n ≤ n') : zws n' st := fun v hv => zwv_up (h v hv) k
theorem zwl_up {n n' : Nat} {ls : zL} (h : zwl n ls) (k : n ≤ n') : zwl n' ls := fun i v e => zwv_up (h i v e) k
theorem zwa_up {n n' : Nat} {a : vp_A} (h : zwa n a) (k : n ≤ n') : zwa n' a := by
  obtain ⟨z, f | f | f | f | f⟩ := a
  · exact trivial
  · exact trivial
  · exact trivial
  · exact trivial
  · exact fun j b e => Nat.lt_of_lt_of_le (h j b e) k
theorem zwc_up {n n' : Nat} {c : zC} (h : zwc n c) (k : n ≤ n') : zwc n' c := by
  obtain ⟨t, a⟩ | ⟨ci, fs⟩ := c
  · exact zwa_up h k
  · exact fun v hv => zwv_up (h v hv) k
theorem zwh_set {n a : Nat} {h : zH} {c : zC} (hw : zwh n h) (hc : zwc n c) : zwh n (zupd h a c) := fun i hi => by
  unfold zupd
  by_cases e : i = a
  · rw [if_pos e]; exact hc
  · rw [if_neg e]; exact hw i hi
theorem zwh_new {n : Nat} {h : zH} {c : zC} (hw : zwh n h) (hc : zwc n c) : zwh (n + 1) (zupd h n c) := fun i hi => by
  unfold zupd
  by_cases e : i = n
  · rw [if_pos e]; exact zwc_up hc (Nat.le_succ n)
  · rw [if_neg e]; exact zwc_up (hw i (by omega)) (Nat.le_succ n)
-- the same addresses, the same values
theorem zv_agree {ad ad' : Nat → Nat} {n : Nat} (ha : ∀ i, i < n → ad' i = ad i) {v : Value} (h : zwv n v) : zv ad' v = zv ad v := by
  cases v <;> first | rfl | exact congrArg Value.ref (ha _ (h _ rfl))
theorem zvs_agree {ad ad' : Nat → Nat} {n : Nat} (ha : ∀ i, i < n → ad' i = ad i) {st : List Value} (h : zws n st) : st.map (zv ad') = st.map (zv ad) := List.map_congr_left fun v hv => zv_agree ha (h v hv)
theorem zarr_agree {ad ad' : Nat → Nat} {n : Nat} (ha : ∀ i, i < n → ad' i = ad i) {a : vp_A} (h : zwa n a) : zarr ad' a = zarr ad a := by
  obtain ⟨z, f | f | f | f | f⟩ := a
  · rfl
  · rfl
  · rfl
  · rfl
  · have : (fun j => (f j).map ad') = fun j => (f j).map ad := by
      funext j
      cases hj : f j with
      | none => rfl
      | some b => exact congrArg some (ha b (h j b hj))
    show (z, _) = (z, _)
    rw [this]
theorem zcell_agree {ad ad' : Nat → Nat} {dA : Nat → ClassId} {n : Nat} (ha : ∀ i, i < n → ad' i = ad i) {c : zC} (h : zwc n c) : zcell ad' dA c = zcell ad dA c := by
  obtain ⟨t, a⟩ | ⟨ci, fs⟩ := c
  · show Sum.inl _ = Sum.inl _
    rw [zarr_agree ha h]
  · show Sum.inr _ = Sum.inr _
    rw [zvs_agree ha h]
theorem zW_agree {ad ad' : Nat → Nat} {dA : Nat → ClassId} {h : zH} {n : Nat} (ha : ∀ i, i < n → ad' i = ad i) (hw : zwh n h) : zW dA ad' h n = zW dA ad h n := List.map_congr_left fun i hi => by
  have hl := List.mem_range.mp hi
  rw [ha i hl, zcell_agree ha (hw i hl)]
theorem zlv_mem {ad : Nat → Nat} {ls : zL} : ∀ (k : Nat) (q : Nat × Value), q ∈ zlv ad k ls ↔ ∃ i v, zget ls i = some v ∧ q = (k + i, zv ad v) := by
  induction ls with
  | nil => intro k q; simp [zlv, zget]
  | cons a ls ih =>
    intro k q
    cases a with
    | none =>
      simp only [zlv, ih]
      constructor
      · rintro ⟨i, v, h, rfl⟩
        exact ⟨i + 1, v, h, by rw [Nat.add_assoc, Nat.add_comm 1 i]⟩
      · rintro ⟨i, v, h, rfl⟩
        cases i with
        | zero => exact nomatch h
        | succ i => exact ⟨i, v, h, by rw [Nat.add_assoc, Nat.add_comm 1 i]⟩
    | some w =>
      simp only [zlv, List.mem_cons, ih]
      constructor
      · rintro (rfl | ⟨i, v, h, rfl⟩)
        · exact ⟨0, w, rfl, rfl⟩
        · exact ⟨i + 1, v, h, by rw [Nat.add_assoc, Nat.add_comm 1 i]⟩
      · rintro ⟨i, v, h, rfl⟩
        cases i with
        | zero => cases h; exact Or.inl rfl
        | succ i => exact Or.inr ⟨i, v, h, by rw [Nat.add_assoc, Nat.add_comm 1 i]⟩
theorem zlv_agree {ad ad' : Nat → Nat} {n : Nat} (ha : ∀ i, i < n → ad' i = ad i) {ls : zL} (h : zwl n ls) {lsA : Array Slot} {nL : Nat} (hl : lv_has lsA nL (zlv ad 0 ls)) : lv_has lsA nL (zlv ad' 0 ls) := by
  refine ⟨hl.1, hl.2.1, fun q hq => ?_⟩
  obtain ⟨i, v, h1, rfl⟩ := (zlv_mem 0 q).mp hq
  rw [zv_agree ha (h i v h1)]
  exact hl.2.2 _ ((zlv_mem 0 _).mpr ⟨i, v, h1, rfl⟩)
theorem zl_at {ad : Nat → Nat} {ls : zL} {lsA : Array Slot} {nL i : Nat} {v : Value} (hl : lv_has lsA nL (zlv ad 0 ls)) (h : zget ls i = some v) : lsA[i]? = some (.val (zv ad v)) := by
  have := hl.2.2 (0 + i, zv ad v) ((zlv_mem 0 _).mpr ⟨i, v, h, rfl⟩)
  rwa [Nat.zero_add] at this
theorem zl_sub {ad : Nat → Nat} {ls ls' : zL} {lsA : Array Slot} {nL : Nat} (hl : lv_has lsA nL (zlv ad 0 ls)) (h : ∀ i v, zget ls' i = some v → zget ls i = some v) : lv_has lsA nL (zlv ad 0 ls') := by
  refine ⟨hl.1, hl.2.1, fun q hq => ?_⟩
  obtain ⟨i, v, h1, rfl⟩ := (zlv_mem 0 q).mp hq
  exact hl.2.2 _ ((zlv_mem 0 _).mpr ⟨i, v, h i v h1, rfl⟩)
theorem zget_set {ls : zL} {i j : Nat} {v w : Value} (h : zget (zset ls i v) j = some w) : (j = i ∧ w = v) ∨ (j ≠ i ∧ zget ls j = some w) := by
  induction ls generalizing i j with
  | nil => exact nomatch h
  | cons a ls ih =>
    cases i with
    | zero =>
      cases j with
      | zero => cases h; exact Or.inl ⟨rfl, rfl⟩
      | succ j => exact Or.inr ⟨Nat.succ_ne_zero j, h⟩
    | succ i =>
      cases j with
      | zero => exact Or.inr ⟨(Nat.succ_ne_zero i).symm, h⟩
      | succ j =>
        rcases ih (i := i) (j := j) h with ⟨e, e2⟩ | ⟨e, e2⟩
        · exact Or.inl ⟨by rw [e], e2⟩
        · exact Or.inr ⟨fun z => e (Nat.succ.inj z), e2⟩
theorem zget_clr {ls : zL} {i j : Nat} {w : Value} (h : zget (zclr ls i) j = some w) : j ≠ i ∧ zget ls j = some w := by
  induction ls generalizing i j with
  | nil => exact nomatch h
  | cons a ls ih =>
    cases i with
    | zero =>
      cases j with
      | zero => exact nomatch h
      | succ j => exact ⟨Nat.succ_ne_zero j, h⟩
    | succ i =>
      cases j with
      | zero => exact ⟨(Nat.succ_ne_zero i).symm, h⟩
      | succ j =>
        obtain ⟨e, e2⟩ := ih (i := i) (j := j) h
        exact ⟨fun z => e (Nat.succ.inj z), e2⟩
theorem zget_clrs {is : List Nat} : ∀ {ls : zL} {j : Nat} {w : Value}, zget (zclrs ls is) j = some w → zget ls j = some w := by
  induction is with
  | nil => intro ls j w h; exact h
  | cons i is ih => intro ls j w h; exact (zget_clr (ih (ls := zclr ls i) h)).2
theorem zok_at {ls : zL} {i j : Nat} {w : Value} (h : zok ls i = true) (hj : zget ls j = some w) (hc : w.category = 2) : ¬ j + 1 = i := by
  intro e
  subst e
  unfold zok at h
  simp only [hj] at h
  cases w <;> simp_all [Value.category]
theorem zcat (ad : Nat → Nat) (v : Value) : (zv ad v).category = v.category := by cases v <;> rfl
/-- a store of one word: what is left of the list that the kit's row names -/
theorem zl_store1 {ad : Nat → Nat} {ls : zL} {lsA : Array Slot} {nL i : Nat} {v : Value} (hk : zok ls i = true) (hl : lv_has lsA nL ((i, zv ad v) :: (zlv ad 0 ls).filter (fun q => !(q.1 == i) && !(q.1 + 1 == i && q.2.category == 2)))) : lv_has lsA nL (zlv ad 0 (zset ls i v)) := by
  refine ⟨hl.1, hl.2.1, fun q hq => ?_⟩
  obtain ⟨j, w, h1, rfl⟩ := (zlv_mem 0 q).mp hq
  rw [Nat.zero_add]
  rcases zget_set h1 with ⟨rfl, rfl⟩ | ⟨hne, h2⟩
  · exact hl.2.2 _ List.mem_cons_self
  · refine hl.2.2 _ (List.mem_cons_of_mem _ (List.mem_filter.mpr ⟨(zlv_mem 0 _).mpr ⟨j, w, h2, by rw [Nat.zero_add]⟩, ?_⟩))
    by_cases hc : w.category = 2
    · have h3 := zok_at hk h2 hc
      simp [hne, h3]
    · simp [hne, zcat, hc]
theorem zl_store2 {ad : Nat → Nat} {ls : zL} {lsA : Array Slot} {nL i : Nat} {v : Value} (hk : zok ls i = true) (hl : lv_has lsA nL ((i, zv ad v) :: (zlv ad 0 ls).filter (fun q => !(q.1 == i) && (!(q.1 == i + 1) && !(q.1 + 1 == i && q.2.category == 2))))) : lv_has lsA nL (zlv ad 0 (zclr (zset ls i v) (i + 1))) := by
  refine ⟨hl.1, hl.2.1, fun q hq => ?_⟩
  obtain ⟨j, w, h1, rfl⟩ := (zlv_mem 0 q).mp hq
  rw [Nat.zero_add]
  obtain ⟨hn1, h1⟩ := zget_clr h1
  rcases zget_set h1 with ⟨rfl, rfl⟩ | ⟨hne, h2⟩
  · exact hl.2.2 _ List.mem_cons_self
  · refine hl.2.2 _ (List.mem_cons_of_mem _ (List.mem_filter.mpr ⟨(zlv_mem 0 _).mpr ⟨j, w, h2, by rw [Nat.zero_add]⟩, ?_⟩))
    by_cases hc : w.category = 2
    · have h3 := zok_at hk h2 hc
      simp [hne, hn1, h3]
    · simp [hne, hn1, zcat, hc]
theorem zwl_set {n : Nat} {ls : zL} {i : Nat} {v : Value} (h : zwl n ls) (hv : zwv n v) : zwl n (zset ls i v) := fun j w e => by
  rcases zget_set e with ⟨-, rfl⟩ | ⟨-, h2⟩
  · exact hv
  · exact h j w h2
theorem zwl_clr {n : Nat} {ls : zL} {i : Nat} (h : zwl n ls) : zwl n (zclr ls i) := fun j w e => h j w (zget_clr e).2
-- the world
theorem zW_get {dA : Nat → ClassId} {ad : Nat → Nat} {h : zH} {n a : Nat} (ha : a < n) : (zW dA ad h n)[a]? = some (ad a, zcell ad dA (h a)) := by
  unfold zW
  rw [List.getElem?_map, List.getElem?_range ha]
  rfl
theorem zW_len {dA : Nat → ClassId} {ad : Nat → Nat} {h : zH} {n : Nat} : (zW dA ad h n).length = n := by simp [zW]
theorem zW_set {dA : Nat → ClassId} {ad : Nat → Nat} {h : zH} {n a : Nat} {c : zC} : (zW dA ad h n).set a (ad a, zcell ad dA c) = zW dA ad (zupd h a c) n := by
  refine List.ext_getElem? fun i => ?_
  by_cases hi : i < n
  · by_cases e : i = a
    · subst e
      rw [List.getElem?_set_self (by rw [zW_len]; exact hi), zW_get hi]
      simp [zupd]
    · rw [List.getElem?_set_ne (Ne.symm e), zW_get hi, zW_get hi]
      simp [zupd, e]
  · rw [List.getElem?_eq_none (by simp [zW_len]; omega), List.getElem?_eq_none (by simp [zW_len]; omega)]
def zadd (ad : Nat → Nat) (n q : Nat) : Nat → Nat := fun i => if i = n then q else ad i
theorem zadd_lt {ad : Nat → Nat} {n q : Nat} : ∀ i, i < n → zadd ad n q i = ad i := fun i hi => by simp [zadd, Nat.ne_of_lt hi]
theorem zadd_n {ad : Nat → Nat} {n q : Nat} : zadd ad n q n = q := by simp [zadd]
theorem zW_new {dA : Nat → ClassId} {ad : Nat → Nat} {h : zH} {n q : Nat} {c : zC} (hw : zwh n h) (hc : zwc n c) : zW dA ad h n ++ [(q, zcell ad dA c)] = zW dA (zadd ad n q) (zupd h n c) (n + 1) := by
  have e1 : zW dA (zadd ad n q) (zupd h n c) (n + 1) = zW dA (zadd ad n q) (zupd h n c) n ++ [(zadd ad n q n, zcell (zadd ad n q) dA (zupd h n c n))] := by simp [zW, List.range_succ]
  rw [e1, zadd_n, show zupd h n c n = c by simp [zupd], zcell_agree zadd_lt hc]
  congr 1
  refine List.map_congr_left fun i hi => ?_
  have hl := List.mem_range.mp hi
  rw [zadd_lt i hl, show zupd h n c i = h i by simp [zupd, Nat.ne_of_lt hl], zcell_agree zadd_lt (hw i hl)]
theorem zsm_ok : ∀ (s : List Value) (k : Nat), zsm s k = true → (s.map fun v => v.category).sum ≤ k := by
  intro s
  induction s with
  | nil => intro k _; exact Nat.zero_le k
  | cons v s ih =>
    intro k h
    rw [List.map_cons, List.sum_cons]
    cases v with
    | long x =>
      match k, h with
      | k' + 2, h => have := ih k' h; show 2 + _ ≤ _; omega
    | double x =>
      match k, h with
      | k' + 2, h => have := ih k' h; show 2 + _ ≤ _; omega
    | int x =>
      match k, h with
      | k' + 1, h => have := ih k' h; show 1 + _ ≤ _; omega
    | float x =>
      match k, h with
      | k' + 1, h => have := ih k' h; show 1 + _ ≤ _; omega
    | null =>
      match k, h with
      | k' + 1, h => have := ih k' h; show 1 + _ ≤ _; omega
    | ref x =>
      match k, h with
      | k' + 1, h => have := ih k' h; show 1 + _ ≤ _; omega
    | retAddr x =>
      match k, h with
      | k' + 1, h => have := ih k' h; show 1 + _ ≤ _; omega
theorem zsm_map {ad : Nat → Nat} {s : List Value} : ((s.map (zv ad)).map fun v => v.category) = s.map fun v => v.category := by
  rw [List.map_map]
  exact List.map_congr_left fun v _ => zcat ad v
theorem zpop_spec : ∀ (k : Nat) (acc st as s : List Value), zpop k acc st = some (as, s) → as.reverse ++ s = acc.reverse ++ st ∧ as.length = k + acc.length := by
  intro k
  induction k with
  | zero => intro acc st as s h; cases h; exact ⟨rfl, (Nat.zero_add _).symm⟩
  | succ k ih =>
    intro acc st as s h
    cases st with
    | nil => exact nomatch h
    | cons v st =>
      obtain ⟨h1, h2⟩ := ih (v :: acc) st as s h
      refine ⟨by rw [h1]; simp, by rw [h2]; simp; omega⟩
theorem zfit_ok {lim : Nat × Nat} {cu su : Nat} (h : zfit lim cu su = true) : cu ≤ lim.1 ∧ su ≤ lim.2 := by
  simp only [zfit, Bool.and_eq_true] at h
  exact ⟨Nat.le_of_ble_eq_true h.1, Nat.le_of_ble_eq_true h.2⟩
end
section
/-! each instruction's transformer is sound -/
def zTys (dA : Nat → ClassId) (SC : String) : List (ClassId × FieldType) := [(dA 0, .int), (dA 1, .boolean), (dA 2, .long), (dA 3, .double), (dA 4, .object SC)]
section ZSound
variable {p : Program} {l : Launch} {e : Env} {R : Room} {s : State} {m : MethodId} {args : Array Value} {below : List Frame} {meth : Method} {c : Code} {Qf : State → Prop}
variable {cc : ByteArray} {nL : Nat} {Ts : List Cond} {own SC : String} {D : va_G} {cl : List vw_C} {dA : Nat → ClassId} {A : Nat → Prop} {ad0 : Nat → Nat} {n0 : Nat}
/-- what a state of the abstract machine says of the real one: from any state that it pictures, the walk goes on -/
def zConc (p : Program) (l : Launch) (e : Env) (R : Room) (s : State) (m : MethodId) (args : Array Value) (below : List Frame) (meth : Method) (c : Code) (Qf : State → Prop) (nL : Nat) (D : va_G) (cl : List vw_C) (dA : Nat → ClassId) (A : Nat → Prop) (ad0 : Nat → Nat) (n0 : Nat) : zP := fun pc ls st h n cu su =>
  (zwl n ls ∧ zws n st ∧ zwh n h) → (cu ≤ R.cells ∧ su ≤ R.slots) → n0 ≤ n → ∀ (ad : Nat → Nat) (H : Heap) (locs : List Loc) (lsA : Array Slot), (∀ i, i < n0 → ad i = ad0 i) →
    va_P D cl (zW dA ad h n) H → va_D A (zW dA ad h n) → va_S A s.heap H locs → lv_has lsA nL (zlv ad 0 ls) →
    W p l e R s m args below meth c H locs cu su Qf (F0 m pc lsA (st.map (zv ad)))
/-- a transformer is sound at a place, whatever the callees' contracts C and the end R' mean -/
def zSnd (Z : zP) (C : zK) (R' : zQ) (pc : Nat) (t : zT) : Prop := ∀ ls st h n cu su, t C R' Z ls st h n cu su → Z pc ls st h n cu su
variable {C : zK} {R' : zQ} {pc : Nat}
theorem zs_iload (F : CallFix p m c cc nL s args Ts own) {i nx : Nat} (hd : decode cc pc = .ok (.iload i, 2)) (hn : pc + 2 = nx) : zSnd (zConc p l e R s m args below meth c Qf nL D cl dA A ad0 n0) C R' pc (zt_iload i nx) := by
  intro ls st h n cu su ht hw hr hnn ad H locs lsA ha hP hD hS hl
  subst hn
  unfold zt_iload at ht
  cases hg : zget ls i with
  | none => rw [hg] at ht; exact ht.elim
  | some v =>
    rw [hg] at ht
    cases v <;> first | exact ht.elim | exact lv_iload F.1 F.2.1 hd (zl_at hl hg) (ht ⟨hw.1, zws_cons zwv_int hw.2.1, hw.2.2⟩ hr hnn ad H locs lsA ha hP hD hS hl)
theorem zs_iload_n (F : CallFix p m c cc nL s args Ts own) {k : Fin 4} {i nx : Nat} (hd : decode cc pc = .ok (.iload_n k, 1)) (hi : (k : Nat) = i) (hn : pc + 1 = nx) : zSnd (zConc p l e R s m args below meth c Qf nL D cl dA A ad0 n0) C R' pc (zt_iload i nx) := by
  intro ls st h n cu su ht hw hr hnn ad H locs lsA ha hP hD hS hl
  subst hn
  unfold zt_iload at ht
  cases hg : zget ls i with
  | none => rw [hg] at ht; exact ht.elim
  | some v =>
    rw [hg] at ht
    cases v <;> first | exact ht.elim | exact lv_iload_n F.1 F.2.1 hd hi (zl_at hl hg) (ht ⟨hw.1, zws_cons zwv_int hw.2.1, hw.2.2⟩ hr hnn ad H locs lsA ha hP hD hS hl)
theorem zs_aload (F : CallFix p m c cc nL s args Ts own) {i nx : Nat} (hd : decode cc pc = .ok (.aload i, 2)) (hn : pc + 2 = nx) : zSnd (zConc p l e R s m args below meth c Qf nL D cl dA A ad0 n0) C R' pc (zt_aload i nx) := by
  intro ls st h n cu su ht hw hr hnn ad H locs lsA ha hP hD hS hl
  subst hn
  unfold zt_aload at ht
  cases hg : zget ls i with
  | none => rw [hg] at ht; exact ht.elim
  | some v =>
    rw [hg] at ht
    cases v <;> first | exact ht.elim | exact lv_aload F.1 F.2.1 hd (zl_at hl hg) (ht ⟨hw.1, zws_cons (hw.1 _ _ hg) hw.2.1, hw.2.2⟩ hr hnn ad H locs lsA ha hP hD hS hl)
theorem zs_aload_n (F : CallFix p m c cc nL s args Ts own) {k : Fin 4} {i nx : Nat} (hd : decode cc pc = .ok (.aload_n k, 1)) (hi : (k : Nat) = i) (hn : pc + 1 = nx) : zSnd (zConc p l e R s m args below meth c Qf nL D cl dA A ad0 n0) C R' pc (zt_aload i nx) := by
  intro ls st h n cu su ht hw hr hnn ad H locs lsA ha hP hD hS hl
  subst hn
  unfold zt_aload at ht
  cases hg : zget ls i with
  | none => rw [hg] at ht; exact ht.elim
  | some v =>
    rw [hg] at ht
    cases v <;> first | exact ht.elim | exact lv_aload_n F.1 F.2.1 hd hi (zl_at hl hg) (ht ⟨hw.1, zws_cons (hw.1 _ _ hg) hw.2.1, hw.2.2⟩ hr hnn ad H locs lsA ha hP hD hS hl)
theorem zs_lload_n (F : CallFix p m c cc nL s args Ts own) {k : Fin 4} {i nx : Nat} (hd : decode cc pc = .ok (.lload_n k, 1)) (hi : (k : Nat) = i) (hn : pc + 1 = nx) : zSnd (zConc p l e R s m args below meth c Qf nL D cl dA A ad0 n0) C R' pc (zt_lload i nx) := by
  intro ls st h n cu su ht hw hr hnn ad H locs lsA ha hP hD hS hl
  subst hn
  unfold zt_lload at ht
  cases hg : zget ls i with
  | none => rw [hg] at ht; exact ht.elim
  | some v =>
    rw [hg] at ht
    cases v <;> first | exact ht.elim | exact lv_lload_n F.1 F.2.1 hd hi (zl_at hl hg) (ht ⟨hw.1, zws_cons zwv_long hw.2.1, hw.2.2⟩ hr hnn ad H locs lsA ha hP hD hS hl)
theorem zs_dload (F : CallFix p m c cc nL s args Ts own) {i nx : Nat} (hd : decode cc pc = .ok (.dload i, 2)) (hn : pc + 2 = nx) : zSnd (zConc p l e R s m args below meth c Qf nL D cl dA A ad0 n0) C R' pc (zt_dload i nx) := by
  intro ls st h n cu su ht hw hr hnn ad H locs lsA ha hP hD hS hl
  subst hn
  unfold zt_dload at ht
  cases hg : zget ls i with
  | none => rw [hg] at ht; exact ht.elim
  | some v =>
    rw [hg] at ht
    cases v <;> first | exact ht.elim | exact lv_dload F.1 F.2.1 hd (zl_at hl hg) (ht ⟨hw.1, zws_cons zwv_double hw.2.1, hw.2.2⟩ hr hnn ad H locs lsA ha hP hD hS hl)
-- stores
theorem zs_istore (F : CallFix p m c cc nL s args Ts own) {i nx : Nat} (hd : decode cc pc = .ok (.istore i, 2)) (hi : i < nL) (hn : pc + 2 = nx) : zSnd (zConc p l e R s m args below meth c Qf nL D cl dA A ad0 n0) C R' pc (zt_istore i nx) := by
  intro ls st h n cu su ht hw hr hnn ad H locs lsA ha hP hD hS hl
  subst hn
  match st, ht, hw with
  | .int x :: st, ht, hw =>
    unfold zt_istore at ht
    cases hk : zok ls i with
    | false => simp only [hk] at ht
    | true =>
      simp only [hk] at ht
      exact lv_istore F.1 F.2.1 hd hl hi rfl fun ls' hl' => ht ⟨zwl_set hw.1 zwv_int, zws_tl hw.2.1, hw.2.2⟩ hr hnn ad H locs ls' ha hP hD hS (zl_store1 (v := .int x) hk hl')
theorem zs_istore_n (F : CallFix p m c cc nL s args Ts own) {k : Fin 4} {i nx : Nat} (hd : decode cc pc = .ok (.istore_n k, 1)) (he : (k : Nat) = i) (hi : i < nL) (hn : pc + 1 = nx) : zSnd (zConc p l e R s m args below meth c Qf nL D cl dA A ad0 n0) C R' pc (zt_istore i nx) := by
  intro ls st h n cu su ht hw hr hnn ad H locs lsA ha hP hD hS hl
  subst hn
  match st, ht, hw with
  | .int x :: st, ht, hw =>
    unfold zt_istore at ht
    cases hk : zok ls i with
    | false => simp only [hk] at ht
    | true =>
      simp only [hk] at ht
      exact lv_istore_n F.1 F.2.1 hd he hl hi rfl fun ls' hl' => ht ⟨zwl_set hw.1 zwv_int, zws_tl hw.2.1, hw.2.2⟩ hr hnn ad H locs ls' ha hP hD hS (zl_store1 (v := .int x) hk hl')
theorem zs_astore (F : CallFix p m c cc nL s args Ts own) {i nx : Nat} (hd : decode cc pc = .ok (.astore i, 2)) (hi : i < nL) (hn : pc + 2 = nx) : zSnd (zConc p l e R s m args below meth c Qf nL D cl dA A ad0 n0) C R' pc (zt_astore i nx) := by
  intro ls st h n cu su ht hw hr hnn ad H locs lsA ha hP hD hS hl
  subst hn
  match st, ht, hw with
  | .ref x :: st, ht, hw =>
    unfold zt_astore at ht
    cases hk : zok ls i with
    | false => simp only [hk] at ht
    | true =>
      simp only [hk] at ht
      exact lv_astore F.1 F.2.1 hd hl hi rfl fun ls' hl' => ht ⟨zwl_set hw.1 (zws_hd hw.2.1), zws_tl hw.2.1, hw.2.2⟩ hr hnn ad H locs ls' ha hP hD hS (zl_store1 (v := .ref x) hk hl')
theorem zs_astore_n (F : CallFix p m c cc nL s args Ts own) {k : Fin 4} {i nx : Nat} (hd : decode cc pc = .ok (.astore_n k, 1)) (he : (k : Nat) = i) (hi : i < nL) (hn : pc + 1 = nx) : zSnd (zConc p l e R s m args below meth c Qf nL D cl dA A ad0 n0) C R' pc (zt_astore i nx) := by
  intro ls st h n cu su ht hw hr hnn ad H locs lsA ha hP hD hS hl
  subst hn
  match st, ht, hw with
  | .ref x :: st, ht, hw =>
    unfold zt_astore at ht
    cases hk : zok ls i with
    | false => simp only [hk] at ht
    | true =>
      simp only [hk] at ht
      exact lv_astore_n F.1 F.2.1 hd he hl hi rfl fun ls' hl' => ht ⟨zwl_set hw.1 (zws_hd hw.2.1), zws_tl hw.2.1, hw.2.2⟩ hr hnn ad H locs ls' ha hP hD hS (zl_store1 (v := .ref x) hk hl')
theorem zs_lstore_n (F : CallFix p m c cc nL s args Ts own) {k : Fin 4} {i nx : Nat} (hd : decode cc pc = .ok (.lstore_n k, 1)) (he : (k : Nat) = i) (hi : i + 1 < nL) (hn : pc + 1 = nx) : zSnd (zConc p l e R s m args below meth c Qf nL D cl dA A ad0 n0) C R' pc (zt_lstore i nx) := by
  intro ls st h n cu su ht hw hr hnn ad H locs lsA ha hP hD hS hl
  subst hn
  match st, ht, hw with
  | .long x :: st, ht, hw =>
    unfold zt_lstore at ht
    cases hk : zok ls i with
    | false => simp only [hk] at ht
    | true =>
      simp only [hk] at ht
      exact lv_lstore_n F.1 F.2.1 hd he hl hi rfl fun ls' hl' => ht ⟨zwl_clr (zwl_set hw.1 zwv_long), zws_tl hw.2.1, hw.2.2⟩ hr hnn ad H locs ls' ha hP hD hS (zl_store2 (v := .long x) hk hl')
theorem zs_dstore (F : CallFix p m c cc nL s args Ts own) {i nx : Nat} (hd : decode cc pc = .ok (.dstore i, 2)) (hi : i + 1 < nL) (hn : pc + 2 = nx) : zSnd (zConc p l e R s m args below meth c Qf nL D cl dA A ad0 n0) C R' pc (zt_dstore i nx) := by
  intro ls st h n cu su ht hw hr hnn ad H locs lsA ha hP hD hS hl
  subst hn
  match st, ht, hw with
  | .double x :: st, ht, hw =>
    unfold zt_dstore at ht
    cases hk : zok ls i with
    | false => simp only [hk] at ht
    | true =>
      simp only [hk] at ht
      exact lv_dstore F.1 F.2.1 hd hl hi rfl fun ls' hl' => ht ⟨zwl_clr (zwl_set hw.1 zwv_double), zws_tl hw.2.1, hw.2.2⟩ hr hnn ad H locs ls' ha hP hD hS (zl_store2 (v := .double x) hk hl')
theorem zs_iinc (F : CallFix p m c cc nL s args Ts own) {i nx : Nat} {k : Int} (hd : decode cc pc = .ok (.iinc i k, 3)) (hi : i < nL) (hn : pc + 3 = nx) : zSnd (zConc p l e R s m args below meth c Qf nL D cl dA A ad0 n0) C R' pc (zt_iinc i k nx) := by
  intro ls st h n cu su ht hw hr hnn ad H locs lsA ha hP hD hS hl
  subst hn
  unfold zt_iinc at ht
  cases hg : zget ls i with
  | none => rw [hg] at ht; exact ht.elim
  | some v =>
    rw [hg] at ht
    cases v with
    | int x =>
      cases hk : zok ls i with
      | false => simp only [hk] at ht
      | true =>
        simp only [hk] at ht
        obtain ⟨k9, hk9⟩ := List.getElem?_of_mem ((zlv_mem 0 (0 + i, zv ad (.int x))).mpr ⟨i, .int x, hg, rfl⟩)
        rw [Nat.zero_add] at hk9
        exact lv_iinc F.1 F.2.1 hd hl hk9 rfl hi rfl fun ls' hl' => ht ⟨zwl_set hw.1 zwv_int, hw.2.1, hw.2.2⟩ hr hnn ad H locs ls' ha hP hD hS (zl_store1 (v := .int (x + Int32.ofInt k)) hk hl')
    | _ => exact ht.elim
-- constants
theorem zs_iconst (F : CallFix p m c cc nL s args Ts own) {k : Int} {v : Int32} {nx : Nat} (hd : decode cc pc = .ok (.iconst k, 1)) (hv : Int32.ofInt k = v) (hn : pc + 1 = nx) : zSnd (zConc p l e R s m args below meth c Qf nL D cl dA A ad0 n0) C R' pc (zt_iconst v nx) := by
  intro ls st h n cu su ht hw hr hnn ad H locs lsA ha hP hD hS hl
  subst hn
  exact lv_iconst F.1 F.2.1 hd hv (ht ⟨hw.1, zws_cons zwv_int hw.2.1, hw.2.2⟩ hr hnn ad H locs lsA ha hP hD hS hl)
theorem zs_bipush (F : CallFix p m c cc nL s args Ts own) {k : Int} {v : Int32} {nx : Nat} (hd : decode cc pc = .ok (.bipush k, 2)) (hv : (Int8.ofInt k).toInt32 = v) (hn : pc + 2 = nx) : zSnd (zConc p l e R s m args below meth c Qf nL D cl dA A ad0 n0) C R' pc (zt_iconst v nx) := by
  intro ls st h n cu su ht hw hr hnn ad H locs lsA ha hP hD hS hl
  subst hn
  exact lv_bipush F.1 F.2.1 hd hv (ht ⟨hw.1, zws_cons zwv_int hw.2.1, hw.2.2⟩ hr hnn ad H locs lsA ha hP hD hS hl)
theorem zs_sipush (F : CallFix p m c cc nL s args Ts own) {k : Int} {v : Int32} {nx : Nat} (hd : decode cc pc = .ok (.sipush k, 3)) (hv : (Int16.ofInt k).toInt32 = v) (hn : pc + 3 = nx) : zSnd (zConc p l e R s m args below meth c Qf nL D cl dA A ad0 n0) C R' pc (zt_iconst v nx) := by
  intro ls st h n cu su ht hw hr hnn ad H locs lsA ha hP hD hS hl
  subst hn
  exact lv_sipush F.1 F.2.1 hd hv (ht ⟨hw.1, zws_cons zwv_int hw.2.1, hw.2.2⟩ hr hnn ad H locs lsA ha hP hD hS hl)
theorem zs_ldc2 (F : CallFix p m c cc nL s args Ts own) {index nx : Nat} {v : Int64} (hc : Jvm.Cond.constantLong own index v ∈ Ts) (hd : decode cc pc = .ok (.ldc2_w index, 3)) (hn : pc + 3 = nx) : zSnd (zConc p l e R s m args below meth c Qf nL D cl dA A ad0 n0) C R' pc (zt_lconst v nx) := by
  intro ls st h n cu su ht hw hr hnn ad H locs lsA ha hP hD hS hl
  subst hn
  exact lv_ldc2 F.1 F.2.1 F.2.2.2.1 (F.2.2.2.2 _ hc) hd (ht ⟨hw.1, zws_cons zwv_long hw.2.1, hw.2.2⟩ hr hnn ad H locs lsA ha hP hD hS hl)
theorem zs_dconst0 (F : CallFix p m c cc nL s args Ts own) {nx : Nat} (hd : decode cc pc = .ok (.dconst 0, 1)) (hn : pc + 1 = nx) : zSnd (zConc p l e R s m args below meth c Qf nL D cl dA A ad0 n0) C R' pc (zt_dconst FP.dconst0 nx) := by
  intro ls st h n cu su ht hw hr hnn ad H locs lsA ha hP hD hS hl
  subst hn
  exact lv_dconst0 F.1 F.2.1 hd (ht ⟨hw.1, zws_cons zwv_double hw.2.1, hw.2.2⟩ hr hnn ad H locs lsA ha hP hD hS hl)
theorem zs_dconst1 (F : CallFix p m c cc nL s args Ts own) {nx : Nat} (hd : decode cc pc = .ok (.dconst 1, 1)) (hn : pc + 1 = nx) : zSnd (zConc p l e R s m args below meth c Qf nL D cl dA A ad0 n0) C R' pc (zt_dconst FP.dconst1 nx) := by
  intro ls st h n cu su ht hw hr hnn ad H locs lsA ha hP hD hS hl
  subst hn
  exact lv_dconst1 F.1 F.2.1 hd (ht ⟨hw.1, zws_cons zwv_double hw.2.1, hw.2.2⟩ hr hnn ad H locs lsA ha hP hD hS hl)
theorem zs_null (F : CallFix p m c cc nL s args Ts own) {nx : Nat} (hd : decode cc pc = .ok (.aconst_null, 1)) (hn : pc + 1 = nx) : zSnd (zConc p l e R s m args below meth c Qf nL D cl dA A ad0 n0) C R' pc (zt_null nx) := by
  intro ls st h n cu su ht hw hr hnn ad H locs lsA ha hP hD hS hl
  subst hn
  exact lv_null F.1 F.2.1 hd (ht ⟨hw.1, zws_cons zwv_null hw.2.1, hw.2.2⟩ hr hnn ad H locs lsA ha hP hD hS hl)
end ZSound
end
section
/-! arithmetic, branches, cells -/
section ZSound
variable {p : Program} {l : Launch} {e : Env} {R : Room} {s : State} {m : MethodId} {args : Array Value} {below : List Frame} {meth : Method} {c : Code} {Qf : State → Prop}
variable {cc : ByteArray} {nL : Nat} {Ts : List Cond} {own SC : String} {D : va_G} {cl : List vw_C} {dA : Nat → ClassId} {A : Nat → Prop} {ad0 : Nat → Nat} {n0 : Nat}
variable {C : zK} {R' : zQ} {pc : Nat}

theorem zs_iadd (F : CallFix p m c cc nL s args Ts own) {nx : Nat} (hd : decode cc pc = .ok (.iadd, 1)) (hn : pc + 1 = nx) : zSnd (zConc p l e R s m args below meth c Qf nL D cl dA A ad0 n0) C R' pc (zt_iadd nx) := by
  intro ls st h n cu su ht hw hr hnn ad H locs lsA ha hP hD hS hl
  subst hn
  match st, ht, hw with
  | .int b :: .int a :: st, ht, hw => exact lv_iadd F.1 F.2.1 hd (ht ⟨hw.1, zws_cons zwv_int (zws_tl (zws_tl hw.2.1)), hw.2.2⟩ hr hnn ad H locs lsA ha hP hD hS hl)
theorem zs_isub (F : CallFix p m c cc nL s args Ts own) {nx : Nat} (hd : decode cc pc = .ok (.isub, 1)) (hn : pc + 1 = nx) : zSnd (zConc p l e R s m args below meth c Qf nL D cl dA A ad0 n0) C R' pc (zt_isub nx) := by
  intro ls st h n cu su ht hw hr hnn ad H locs lsA ha hP hD hS hl
  subst hn
  match st, ht, hw with
  | .int b :: .int a :: st, ht, hw => exact lv_isub F.1 F.2.1 hd (ht ⟨hw.1, zws_cons zwv_int (zws_tl (zws_tl hw.2.1)), hw.2.2⟩ hr hnn ad H locs lsA ha hP hD hS hl)
theorem zs_imul (F : CallFix p m c cc nL s args Ts own) {nx : Nat} (hd : decode cc pc = .ok (.imul, 1)) (hn : pc + 1 = nx) : zSnd (zConc p l e R s m args below meth c Qf nL D cl dA A ad0 n0) C R' pc (zt_imul nx) := by
  intro ls st h n cu su ht hw hr hnn ad H locs lsA ha hP hD hS hl
  subst hn
  match st, ht, hw with
  | .int b :: .int a :: st, ht, hw => exact lv_imul F.1 F.2.1 hd (ht ⟨hw.1, zws_cons zwv_int (zws_tl (zws_tl hw.2.1)), hw.2.2⟩ hr hnn ad H locs lsA ha hP hD hS hl)
theorem zs_iand (F : CallFix p m c cc nL s args Ts own) {nx : Nat} (hd : decode cc pc = .ok (.iand, 1)) (hn : pc + 1 = nx) : zSnd (zConc p l e R s m args below meth c Qf nL D cl dA A ad0 n0) C R' pc (zt_iand nx) := by
  intro ls st h n cu su ht hw hr hnn ad H locs lsA ha hP hD hS hl
  subst hn
  match st, ht, hw with
  | .int b :: .int a :: st, ht, hw => exact lv_iand F.1 F.2.1 hd (ht ⟨hw.1, zws_cons zwv_int (zws_tl (zws_tl hw.2.1)), hw.2.2⟩ hr hnn ad H locs lsA ha hP hD hS hl)
theorem zs_ladd (F : CallFix p m c cc nL s args Ts own) {nx : Nat} (hd : decode cc pc = .ok (.ladd, 1)) (hn : pc + 1 = nx) : zSnd (zConc p l e R s m args below meth c Qf nL D cl dA A ad0 n0) C R' pc (zt_ladd nx) := by
  intro ls st h n cu su ht hw hr hnn ad H locs lsA ha hP hD hS hl
  subst hn
  match st, ht, hw with
  | .long b :: .long a :: st, ht, hw => exact lv_ladd F.1 F.2.1 hd (ht ⟨hw.1, zws_cons zwv_long (zws_tl (zws_tl hw.2.1)), hw.2.2⟩ hr hnn ad H locs lsA ha hP hD hS hl)
theorem zs_lmul (F : CallFix p m c cc nL s args Ts own) {nx : Nat} (hd : decode cc pc = .ok (.lmul, 1)) (hn : pc + 1 = nx) : zSnd (zConc p l e R s m args below meth c Qf nL D cl dA A ad0 n0) C R' pc (zt_lmul nx) := by
  intro ls st h n cu su ht hw hr hnn ad H locs lsA ha hP hD hS hl
  subst hn
  match st, ht, hw with
  | .long b :: .long a :: st, ht, hw => exact lv_lmul F.1 F.2.1 hd (ht ⟨hw.1, zws_cons zwv_long (zws_tl (zws_tl hw.2.1)), hw.2.2⟩ hr hnn ad H locs lsA ha hP hD hS hl)
theorem zs_i2l (F : CallFix p m c cc nL s args Ts own) {nx : Nat} (hd : decode cc pc = .ok (.i2l, 1)) (hn : pc + 1 = nx) : zSnd (zConc p l e R s m args below meth c Qf nL D cl dA A ad0 n0) C R' pc (zt_i2l nx) := by
  intro ls st h n cu su ht hw hr hnn ad H locs lsA ha hP hD hS hl
  subst hn
  match st, ht, hw with
  | .int a :: st, ht, hw => exact lv_i2l F.1 F.2.1 hd rfl (ht ⟨hw.1, zws_cons zwv_long (zws_tl hw.2.1), hw.2.2⟩ hr hnn ad H locs lsA ha hP hD hS hl)
theorem zs_i2d (F : CallFix p m c cc nL s args Ts own) {nx : Nat} (hd : decode cc pc = .ok (.i2d, 1)) (hn : pc + 1 = nx) : zSnd (zConc p l e R s m args below meth c Qf nL D cl dA A ad0 n0) C R' pc (zt_i2d nx) := by
  intro ls st h n cu su ht hw hr hnn ad H locs lsA ha hP hD hS hl
  subst hn
  match st, ht, hw with
  | .int a :: st, ht, hw => exact lv_i2d F.1 F.2.1 hd (ht ⟨hw.1, zws_cons zwv_double (zws_tl hw.2.1), hw.2.2⟩ hr hnn ad H locs lsA ha hP hD hS hl)
theorem zs_ddiv (F : CallFix p m c cc nL s args Ts own) {nx : Nat} (hd : decode cc pc = .ok (.ddiv, 1)) (hn : pc + 1 = nx) : zSnd (zConc p l e R s m args below meth c Qf nL D cl dA A ad0 n0) C R' pc (zt_ddiv nx) := by
  intro ls st h n cu su ht hw hr hnn ad H locs lsA ha hP hD hS hl
  subst hn
  match st, ht, hw with
  | .double b :: .double a :: st, ht, hw => exact lv_ddiv F.1 F.2.1 hd ht.1 (ht.2 ⟨hw.1, zws_cons zwv_double (zws_tl (zws_tl hw.2.1)), hw.2.2⟩ hr hnn ad H locs lsA ha hP hD hS hl)
theorem zs_dcmp (F : CallFix p m c cc nL s args Ts own) {op : CmpOp} {nx : Nat} (hd : decode cc pc = .ok (.dcmp op, 1)) (hn : pc + 1 = nx) : zSnd (zConc p l e R s m args below meth c Qf nL D cl dA A ad0 n0) C R' pc (zt_dcmp op nx) := by
  intro ls st h n cu su ht hw hr hnn ad H locs lsA ha hP hD hS hl
  subst hn
  match st, ht, hw with
  | .double b :: .double a :: st, ht, hw => exact lv_dcmp F.1 F.2.1 hd (ht ⟨hw.1, zws_cons zwv_int (zws_tl (zws_tl hw.2.1)), hw.2.2⟩ hr hnn ad H locs lsA ha hP hD hS hl)
theorem zs_pop (F : CallFix p m c cc nL s args Ts own) {nx : Nat} (hd : decode cc pc = .ok (.pop, 1)) (hn : pc + 1 = nx) : zSnd (zConc p l e R s m args below meth c Qf nL D cl dA A ad0 n0) C R' pc (zt_pop nx) := by
  intro ls st h n cu su ht hw hr hnn ad H locs lsA ha hP hD hS hl
  subst hn
  match st, ht, hw with
  | .int a :: st, ht, hw => exact lv_pop F.1 F.2.1 hd rfl (ht ⟨hw.1, zws_tl hw.2.1, hw.2.2⟩ hr hnn ad H locs lsA ha hP hD hS hl)
  | .ref a :: st, ht, hw => exact lv_pop F.1 F.2.1 hd rfl (ht ⟨hw.1, zws_tl hw.2.1, hw.2.2⟩ hr hnn ad H locs lsA ha hP hD hS hl)
theorem zs_dup (F : CallFix p m c cc nL s args Ts own) {nx : Nat} (hd : decode cc pc = .ok (.dup, 1)) (hn : pc + 1 = nx) : zSnd (zConc p l e R s m args below meth c Qf nL D cl dA A ad0 n0) C R' pc (zt_dup nx) := by
  intro ls st h n cu su ht hw hr hnn ad H locs lsA ha hP hD hS hl
  subst hn
  match st, ht, hw with
  | .int a :: st, ht, hw => exact lv_dup F.1 F.2.1 hd rfl (ht ⟨hw.1, zws_cons (zws_hd hw.2.1) hw.2.1, hw.2.2⟩ hr hnn ad H locs lsA ha hP hD hS hl)
  | .ref a :: st, ht, hw => exact lv_dup F.1 F.2.1 hd rfl (ht ⟨hw.1, zws_cons (zws_hd hw.2.1) hw.2.1, hw.2.2⟩ hr hnn ad H locs lsA ha hP hD hS hl)
theorem zs_dup2 (F : CallFix p m c cc nL s args Ts own) {nx : Nat} (hd : decode cc pc = .ok (.dup2, 1)) (hn : pc + 1 = nx) : zSnd (zConc p l e R s m args below meth c Qf nL D cl dA A ad0 n0) C R' pc (zt_dup2 nx) := by
  intro ls st h n cu su ht hw hr hnn ad H locs lsA ha hP hD hS hl
  subst hn
  match st, ht, hw with
  | .int b :: .ref a :: st, ht, hw => exact lv_dup2_11 F.1 F.2.1 hd rfl rfl (ht ⟨hw.1, zws_cons zwv_int (zws_cons (zws_hd (zws_tl hw.2.1)) hw.2.1), hw.2.2⟩ hr hnn ad H locs lsA ha hP hD hS hl)
theorem zs_goto (F : CallFix p m c cc nL s args Ts own) {off : Int} {tgt : Nat} {is : List Nat} (hd : decode cc pc = .ok (.goto off, 3)) (hn : (pc : Int) + off = (tgt : Int)) : zSnd (zConc p l e R s m args below meth c Qf nL D cl dA A ad0 n0) C R' pc (zt_goto tgt is) := by
  intro ls st h n cu su ht hw hr hnn ad H locs lsA ha hP hD hS hl
  exact lv_goto F.1 F.2.1 hd hn (ht ⟨fun i v e => hw.1 i v (zget_clrs e), hw.2.1, hw.2.2⟩ hr hnn ad H locs lsA ha hP hD hS (zl_sub hl fun i v e => zget_clrs e))
theorem zs_ifnull (F : CallFix p m c cc nL s args Ts own) {off : Int} {nx : Nat} (hd : decode cc pc = .ok (.ifnull off, 3)) (hn : pc + 3 = nx) : zSnd (zConc p l e R s m args below meth c Qf nL D cl dA A ad0 n0) C R' pc (zt_ifnull nx) := by
  intro ls st h n cu su ht hw hr hnn ad H locs lsA ha hP hD hS hl
  subst hn
  match st, ht, hw with
  | .ref a :: st, ht, hw => exact lv_ifnull F.1 F.2.1 hd (ht ⟨hw.1, zws_tl hw.2.1, hw.2.2⟩ hr hnn ad H locs lsA ha hP hD hS hl)
theorem zs_ifeq (F : CallFix p m c cc nL s args Ts own) {off : Int} {tgt nx : Nat} (hd : decode cc pc = .ok (.ifCond .eq off, 3)) (ht9 : (pc : Int) + off = (tgt : Int)) (hn : pc + 3 = nx) : zSnd (zConc p l e R s m args below meth c Qf nL D cl dA A ad0 n0) C R' pc (zt_ifeq tgt nx) := by
  intro ls st h n cu su ht hw hr hnn ad H locs lsA ha hP hD hS hl
  subst hn
  match st, ht, hw with
  | .int a :: st, ht, hw => exact lv_if_eq F.1 F.2.1 hd ht9 (fun k => ht.1 k ⟨hw.1, zws_tl hw.2.1, hw.2.2⟩ hr hnn ad H locs lsA ha hP hD hS hl) (fun k => ht.2 k ⟨hw.1, zws_tl hw.2.1, hw.2.2⟩ hr hnn ad H locs lsA ha hP hD hS hl)
theorem zs_icmpeq (F : CallFix p m c cc nL s args Ts own) {off : Int} {tgt nx : Nat} (hd : decode cc pc = .ok (.if_icmp .eq off, 3)) (ht9 : (pc : Int) + off = (tgt : Int)) (hn : pc + 3 = nx) : zSnd (zConc p l e R s m args below meth c Qf nL D cl dA A ad0 n0) C R' pc (zt_icmpeq tgt nx) := by
  intro ls st h n cu su ht hw hr hnn ad H locs lsA ha hP hD hS hl
  subst hn
  match st, ht, hw with
  | .int b :: .int a :: st, ht, hw => exact lv_icmp_eq F.1 F.2.1 hd ht9 (fun k => ht.1 k ⟨hw.1, zws_tl (zws_tl hw.2.1), hw.2.2⟩ hr hnn ad H locs lsA ha hP hD hS hl) (fun k => ht.2 k ⟨hw.1, zws_tl (zws_tl hw.2.1), hw.2.2⟩ hr hnn ad H locs lsA ha hP hD hS hl)
theorem zs_ifne (F : CallFix p m c cc nL s args Ts own) {off : Int} {tgt nx : Nat} (hd : decode cc pc = .ok (.ifCond .ne off, 3)) (ht9 : (pc : Int) + off = (tgt : Int)) (hn : pc + 3 = nx) : zSnd (zConc p l e R s m args below meth c Qf nL D cl dA A ad0 n0) C R' pc (zt_ifne tgt nx) := by
  intro ls st h n cu su ht hw hr hnn ad H locs lsA ha hP hD hS hl
  subst hn
  match st, ht, hw with
  | .int a :: st, ht, hw => exact lv_if_ne F.1 F.2.1 hd ht9 (fun k => ht.1 k ⟨hw.1, zws_tl hw.2.1, hw.2.2⟩ hr hnn ad H locs lsA ha hP hD hS hl) (fun k => ht.2 k ⟨hw.1, zws_tl hw.2.1, hw.2.2⟩ hr hnn ad H locs lsA ha hP hD hS hl)
theorem zs_icmpne (F : CallFix p m c cc nL s args Ts own) {off : Int} {tgt nx : Nat} (hd : decode cc pc = .ok (.if_icmp .ne off, 3)) (ht9 : (pc : Int) + off = (tgt : Int)) (hn : pc + 3 = nx) : zSnd (zConc p l e R s m args below meth c Qf nL D cl dA A ad0 n0) C R' pc (zt_icmpne tgt nx) := by
  intro ls st h n cu su ht hw hr hnn ad H locs lsA ha hP hD hS hl
  subst hn
  match st, ht, hw with
  | .int b :: .int a :: st, ht, hw => exact lv_icmp_ne F.1 F.2.1 hd ht9 (fun k => ht.1 k ⟨hw.1, zws_tl (zws_tl hw.2.1), hw.2.2⟩ hr hnn ad H locs lsA ha hP hD hS hl) (fun k => ht.2 k ⟨hw.1, zws_tl (zws_tl hw.2.1), hw.2.2⟩ hr hnn ad H locs lsA ha hP hD hS hl)
theorem zs_iflt (F : CallFix p m c cc nL s args Ts own) {off : Int} {tgt nx : Nat} (hd : decode cc pc = .ok (.ifCond .lt off, 3)) (ht9 : (pc : Int) + off = (tgt : Int)) (hn : pc + 3 = nx) : zSnd (zConc p l e R s m args below meth c Qf nL D cl dA A ad0 n0) C R' pc (zt_iflt tgt nx) := by
  intro ls st h n cu su ht hw hr hnn ad H locs lsA ha hP hD hS hl
  subst hn
  match st, ht, hw with
  | .int a :: st, ht, hw => exact lv_if_lt F.1 F.2.1 hd ht9 (fun k => ht.1 k ⟨hw.1, zws_tl hw.2.1, hw.2.2⟩ hr hnn ad H locs lsA ha hP hD hS hl) (fun k => ht.2 k ⟨hw.1, zws_tl hw.2.1, hw.2.2⟩ hr hnn ad H locs lsA ha hP hD hS hl)
theorem zs_icmplt (F : CallFix p m c cc nL s args Ts own) {off : Int} {tgt nx : Nat} (hd : decode cc pc = .ok (.if_icmp .lt off, 3)) (ht9 : (pc : Int) + off = (tgt : Int)) (hn : pc + 3 = nx) : zSnd (zConc p l e R s m args below meth c Qf nL D cl dA A ad0 n0) C R' pc (zt_icmplt tgt nx) := by
  intro ls st h n cu su ht hw hr hnn ad H locs lsA ha hP hD hS hl
  subst hn
  match st, ht, hw with
  | .int b :: .int a :: st, ht, hw => exact lv_icmp_lt F.1 F.2.1 hd ht9 (fun k => ht.1 k ⟨hw.1, zws_tl (zws_tl hw.2.1), hw.2.2⟩ hr hnn ad H locs lsA ha hP hD hS hl) (fun k => ht.2 k ⟨hw.1, zws_tl (zws_tl hw.2.1), hw.2.2⟩ hr hnn ad H locs lsA ha hP hD hS hl)
theorem zs_ifle (F : CallFix p m c cc nL s args Ts own) {off : Int} {tgt nx : Nat} (hd : decode cc pc = .ok (.ifCond .le off, 3)) (ht9 : (pc : Int) + off = (tgt : Int)) (hn : pc + 3 = nx) : zSnd (zConc p l e R s m args below meth c Qf nL D cl dA A ad0 n0) C R' pc (zt_ifle tgt nx) := by
  intro ls st h n cu su ht hw hr hnn ad H locs lsA ha hP hD hS hl
  subst hn
  match st, ht, hw with
  | .int a :: st, ht, hw => exact lv_if_le F.1 F.2.1 hd ht9 (fun k => ht.1 k ⟨hw.1, zws_tl hw.2.1, hw.2.2⟩ hr hnn ad H locs lsA ha hP hD hS hl) (fun k => ht.2 k ⟨hw.1, zws_tl hw.2.1, hw.2.2⟩ hr hnn ad H locs lsA ha hP hD hS hl)
theorem zs_icmple (F : CallFix p m c cc nL s args Ts own) {off : Int} {tgt nx : Nat} (hd : decode cc pc = .ok (.if_icmp .le off, 3)) (ht9 : (pc : Int) + off = (tgt : Int)) (hn : pc + 3 = nx) : zSnd (zConc p l e R s m args below meth c Qf nL D cl dA A ad0 n0) C R' pc (zt_icmple tgt nx) := by
  intro ls st h n cu su ht hw hr hnn ad H locs lsA ha hP hD hS hl
  subst hn
  match st, ht, hw with
  | .int b :: .int a :: st, ht, hw => exact lv_icmp_le F.1 F.2.1 hd ht9 (fun k => ht.1 k ⟨hw.1, zws_tl (zws_tl hw.2.1), hw.2.2⟩ hr hnn ad H locs lsA ha hP hD hS hl) (fun k => ht.2 k ⟨hw.1, zws_tl (zws_tl hw.2.1), hw.2.2⟩ hr hnn ad H locs lsA ha hP hD hS hl)
theorem zs_ifgt (F : CallFix p m c cc nL s args Ts own) {off : Int} {tgt nx : Nat} (hd : decode cc pc = .ok (.ifCond .gt off, 3)) (ht9 : (pc : Int) + off = (tgt : Int)) (hn : pc + 3 = nx) : zSnd (zConc p l e R s m args below meth c Qf nL D cl dA A ad0 n0) C R' pc (zt_ifgt tgt nx) := by
  intro ls st h n cu su ht hw hr hnn ad H locs lsA ha hP hD hS hl
  subst hn
  match st, ht, hw with
  | .int a :: st, ht, hw => exact lv_if_gt F.1 F.2.1 hd ht9 (fun k => ht.1 k ⟨hw.1, zws_tl hw.2.1, hw.2.2⟩ hr hnn ad H locs lsA ha hP hD hS hl) (fun k => ht.2 k ⟨hw.1, zws_tl hw.2.1, hw.2.2⟩ hr hnn ad H locs lsA ha hP hD hS hl)
theorem zs_icmpgt (F : CallFix p m c cc nL s args Ts own) {off : Int} {tgt nx : Nat} (hd : decode cc pc = .ok (.if_icmp .gt off, 3)) (ht9 : (pc : Int) + off = (tgt : Int)) (hn : pc + 3 = nx) : zSnd (zConc p l e R s m args below meth c Qf nL D cl dA A ad0 n0) C R' pc (zt_icmpgt tgt nx) := by
  intro ls st h n cu su ht hw hr hnn ad H locs lsA ha hP hD hS hl
  subst hn
  match st, ht, hw with
  | .int b :: .int a :: st, ht, hw => exact lv_icmp_gt F.1 F.2.1 hd ht9 (fun k => ht.1 k ⟨hw.1, zws_tl (zws_tl hw.2.1), hw.2.2⟩ hr hnn ad H locs lsA ha hP hD hS hl) (fun k => ht.2 k ⟨hw.1, zws_tl (zws_tl hw.2.1), hw.2.2⟩ hr hnn ad H locs lsA ha hP hD hS hl)
theorem zs_ifge (F : CallFix p m c cc nL s args Ts own) {off : Int} {tgt nx : Nat} (hd : decode cc pc = .ok (.ifCond .ge off, 3)) (ht9 : (pc : Int) + off = (tgt : Int)) (hn : pc + 3 = nx) : zSnd (zConc p l e R s m args below meth c Qf nL D cl dA A ad0 n0) C R' pc (zt_ifge tgt nx) := by
  intro ls st h n cu su ht hw hr hnn ad H locs lsA ha hP hD hS hl
  subst hn
  match st, ht, hw with
  | .int a :: st, ht, hw => exact lv_if_ge F.1 F.2.1 hd ht9 (fun k => ht.1 k ⟨hw.1, zws_tl hw.2.1, hw.2.2⟩ hr hnn ad H locs lsA ha hP hD hS hl) (fun k => ht.2 k ⟨hw.1, zws_tl hw.2.1, hw.2.2⟩ hr hnn ad H locs lsA ha hP hD hS hl)
theorem zs_icmpge (F : CallFix p m c cc nL s args Ts own) {off : Int} {tgt nx : Nat} (hd : decode cc pc = .ok (.if_icmp .ge off, 3)) (ht9 : (pc : Int) + off = (tgt : Int)) (hn : pc + 3 = nx) : zSnd (zConc p l e R s m args below meth c Qf nL D cl dA A ad0 n0) C R' pc (zt_icmpge tgt nx) := by
  intro ls st h n cu su ht hw hr hnn ad H locs lsA ha hP hD hS hl
  subst hn
  match st, ht, hw with
  | .int b :: .int a :: st, ht, hw => exact lv_icmp_ge F.1 F.2.1 hd ht9 (fun k => ht.1 k ⟨hw.1, zws_tl (zws_tl hw.2.1), hw.2.2⟩ hr hnn ad H locs lsA ha hP hD hS hl) (fun k => ht.2 k ⟨hw.1, zws_tl (zws_tl hw.2.1), hw.2.2⟩ hr hnn ad H locs lsA ha hP hD hS hl)
theorem zs_leq_eq (F : CallFix p m c cc nL s args Ts own) {off : Int} {tgt nx : Nat} (hd : decode cc pc = .ok (.lcmp, 1)) (hd2 : decode cc (pc + 1) = .ok (.ifCond .eq off, 3)) (ht9 : ((pc + 1 : Nat) : Int) + off = (tgt : Int)) (hn : pc + 1 + 3 = nx) : zSnd (zConc p l e R s m args below meth c Qf nL D cl dA A ad0 n0) C R' pc (zt_leq tgt nx) := by
  intro ls st h n cu su ht hw hr hnn ad H locs lsA ha hP hD hS hl
  subst hn
  match st, ht, hw with
  | .long b :: .long a :: st, ht, hw =>
    refine W.lcmp F.1 F.2.1 hd ?_
    have hq : lg_cmp a b = 0 ↔ a = b := by
      unfold lg_cmp
      by_cases h1 : b < a
      · have : ¬ a = b := fun q => by subst q; exact absurd h1 (by simp)
        simp [h1, this]
      · by_cases h2 : a = b
        · simp [h1, h2]
        · simp [h1, h2]
    exact lv_if_eq F.1 F.2.1 hd2 ht9 (fun k => ht.1 (hq.mp k) ⟨hw.1, zws_tl (zws_tl hw.2.1), hw.2.2⟩ hr hnn ad H locs lsA ha hP hD hS hl) (fun k => ht.2 (fun q => k (hq.mpr q)) ⟨hw.1, zws_tl (zws_tl hw.2.1), hw.2.2⟩ hr hnn ad H locs lsA ha hP hD hS hl)
theorem zs_leq_ne (F : CallFix p m c cc nL s args Ts own) {off : Int} {tgt nx : Nat} (hd : decode cc pc = .ok (.lcmp, 1)) (hd2 : decode cc (pc + 1) = .ok (.ifCond .ne off, 3)) (ht9 : ((pc + 1 : Nat) : Int) + off = (tgt : Int)) (hn : pc + 1 + 3 = nx) : zSnd (zConc p l e R s m args below meth c Qf nL D cl dA A ad0 n0) C R' pc (zt_leq nx tgt) := by
  intro ls st h n cu su ht hw hr hnn ad H locs lsA ha hP hD hS hl
  subst hn
  match st, ht, hw with
  | .long b :: .long a :: st, ht, hw =>
    refine W.lcmp F.1 F.2.1 hd ?_
    have hq : lg_cmp a b = 0 ↔ a = b := by
      unfold lg_cmp
      by_cases h1 : b < a
      · have : ¬ a = b := fun q => by subst q; exact absurd h1 (by simp)
        simp [h1, this]
      · by_cases h2 : a = b
        · simp [h1, h2]
        · simp [h1, h2]
    exact lv_if_ne F.1 F.2.1 hd2 ht9 (fun k => ht.2 (fun q => k (hq.mpr q)) ⟨hw.1, zws_tl (zws_tl hw.2.1), hw.2.2⟩ hr hnn ad H locs lsA ha hP hD hS hl) (fun k => ht.1 (hq.mp k) ⟨hw.1, zws_tl (zws_tl hw.2.1), hw.2.2⟩ hr hnn ad H locs lsA ha hP hD hS hl)
theorem zs_iald (F : CallFix p m c cc nL s args Ts own) (hK : va_K D cl (zTys dA SC) s) {nx : Nat} (hd : decode cc pc = .ok (.iaload, 1)) (hn : pc + 1 = nx) : zSnd (zConc p l e R s m args below meth c Qf nL D cl dA A ad0 n0) C R' pc (zt_iald nx) := by
  intro ls st h n cu su ht hw hr hnn ad H locs lsA ha hP hD hS hl
  subst hn
  match st, ht, hw with
  | .int i :: .ref a :: st, ht, hw =>
    obtain ⟨k, f, h1, h2, h3⟩ := ht
    have hg := zW_get (dA := dA) (ad := ad) (h := h) (zws_ref (zws_tl hw.2.1))
    rw [h1] at hg
    exact va_iald F.1 F.2.1 hK hP a 0 hg rfl h2 hd (h3 ⟨hw.1, zws_cons zwv_int (zws_tl (zws_tl hw.2.1)), hw.2.2⟩ hr hnn ad H locs lsA ha hP hD hS hl)
theorem zs_zald (F : CallFix p m c cc nL s args Ts own) (hK : va_K D cl (zTys dA SC) s) {nx : Nat} (hd : decode cc pc = .ok (.baload, 1)) (hn : pc + 1 = nx) : zSnd (zConc p l e R s m args below meth c Qf nL D cl dA A ad0 n0) C R' pc (zt_zald nx) := by
  intro ls st h n cu su ht hw hr hnn ad H locs lsA ha hP hD hS hl
  subst hn
  match st, ht, hw with
  | .int i :: .ref a :: st, ht, hw =>
    obtain ⟨k, f, h1, h2, h3⟩ := ht
    have hg := zW_get (dA := dA) (ad := ad) (h := h) (zws_ref (zws_tl hw.2.1))
    rw [h1] at hg
    exact va_zald F.1 F.2.1 hK hP a 1 hg rfl h2 hd (h3 ⟨hw.1, zws_cons zwv_int (zws_tl (zws_tl hw.2.1)), hw.2.2⟩ hr hnn ad H locs lsA ha hP hD hS hl)
theorem zs_lald (F : CallFix p m c cc nL s args Ts own) (hK : va_K D cl (zTys dA SC) s) {nx : Nat} (hd : decode cc pc = .ok (.laload, 1)) (hn : pc + 1 = nx) : zSnd (zConc p l e R s m args below meth c Qf nL D cl dA A ad0 n0) C R' pc (zt_lald nx) := by
  intro ls st h n cu su ht hw hr hnn ad H locs lsA ha hP hD hS hl
  subst hn
  match st, ht, hw with
  | .int i :: .ref a :: st, ht, hw =>
    obtain ⟨k, f, h1, h2, h3⟩ := ht
    have hg := zW_get (dA := dA) (ad := ad) (h := h) (zws_ref (zws_tl hw.2.1))
    rw [h1] at hg
    exact va_lald F.1 F.2.1 hK hP a 2 hg rfl h2 hd (h3 ⟨hw.1, zws_cons zwv_long (zws_tl (zws_tl hw.2.1)), hw.2.2⟩ hr hnn ad H locs lsA ha hP hD hS hl)
theorem zs_dald (F : CallFix p m c cc nL s args Ts own) (hK : va_K D cl (zTys dA SC) s) {nx : Nat} (hd : decode cc pc = .ok (.daload, 1)) (hn : pc + 1 = nx) : zSnd (zConc p l e R s m args below meth c Qf nL D cl dA A ad0 n0) C R' pc (zt_dald nx) := by
  intro ls st h n cu su ht hw hr hnn ad H locs lsA ha hP hD hS hl
  subst hn
  match st, ht, hw with
  | .int i :: .ref a :: st, ht, hw =>
    obtain ⟨k, f, h1, h2, h3⟩ := ht
    have hg := zW_get (dA := dA) (ad := ad) (h := h) (zws_ref (zws_tl hw.2.1))
    rw [h1] at hg
    exact va_dald F.1 F.2.1 hK hP a 3 hg rfl h2 hd (h3 ⟨hw.1, zws_cons zwv_double (zws_tl (zws_tl hw.2.1)), hw.2.2⟩ hr hnn ad H locs lsA ha hP hD hS hl)
theorem zs_aald (F : CallFix p m c cc nL s args Ts own) (hK : va_K D cl (zTys dA SC) s) {nx : Nat} (hd : decode cc pc = .ok (.aaload, 1)) (hn : pc + 1 = nx) : zSnd (zConc p l e R s m args below meth c Qf nL D cl dA A ad0 n0) C R' pc (zt_aald nx) := by
  intro ls st h n cu su ht hw hr hnn ad H locs lsA ha hP hD hS hl
  subst hn
  match st, ht, hw with
  | .int i :: .ref a :: st, ht, hw =>
    obtain ⟨k, f, h1, h2, h3⟩ := ht
    have hal := zws_ref (zws_tl hw.2.1)
    have hg := zW_get (dA := dA) (ad := ad) (h := h) hal
    rw [h1] at hg
    have hwa := hw.2.2 a hal
    rw [h1] at hwa
    have hwv : zwv n (va_rf (f i.toNatClampNeg)) := by
      cases hf : f i.toNatClampNeg with
      | none => exact zwv_null
      | some b => exact zwv_ref (hwa _ b hf)
    have e9 : zv ad (va_rf (f i.toNatClampNeg)) = va_rf ((f i.toNatClampNeg).map ad) := by cases f i.toNatClampNeg <;> rfl
    have k9 := h3 ⟨hw.1, zws_cons hwv (zws_tl (zws_tl hw.2.1)), hw.2.2⟩ hr hnn ad H locs lsA ha hP hD hS hl
    rw [List.map_cons, e9] at k9
    exact va_aldq F.1 F.2.1 hK hP a 4 hg rfl h2 hd k9
theorem zs_iast (F : CallFix p m c cc nL s args Ts own) (hK : va_K D cl (zTys dA SC) s) {nx : Nat} (hd : decode cc pc = .ok (.iastore, 1)) (hn : pc + 1 = nx) : zSnd (zConc p l e R s m args below meth c Qf nL D cl dA A ad0 n0) C R' pc (zt_iast nx) := by
  intro ls st h n cu su ht hw hr hnn ad H locs lsA ha hP hD hS hl
  subst hn
  match st, ht, hw with
  | .int x :: .int i :: .ref a :: st, ht, hw =>
    obtain ⟨k, f, h1, h2, h3⟩ := ht
    have hg := zW_get (dA := dA) (ad := ad) (h := h) (zws_ref (zws_tl (zws_tl hw.2.1)))
    rw [h1] at hg
    refine va_iast F.1 F.2.1 hK hP hD hS a 0 hg rfl h2 hd fun H1 locs1 hP1 hD1 hS1 => ?_
    have e9 := zW_set (dA := dA) (ad := ad) (h := h) (n := n) (a := a) (c := .inl (0, k, .inl (upd f i.toNatClampNeg x)))
    exact h3 ⟨hw.1, zws_tl (zws_tl (zws_tl hw.2.1)), zwh_set hw.2.2 trivial⟩ hr hnn ad H1 locs1 lsA ha (e9 ▸ hP1) (e9 ▸ hD1) hS1 hl
theorem zs_zast (F : CallFix p m c cc nL s args Ts own) (hK : va_K D cl (zTys dA SC) s) {nx : Nat} (hd : decode cc pc = .ok (.bastore, 1)) (hn : pc + 1 = nx) : zSnd (zConc p l e R s m args below meth c Qf nL D cl dA A ad0 n0) C R' pc (zt_zast nx) := by
  intro ls st h n cu su ht hw hr hnn ad H locs lsA ha hP hD hS hl
  subst hn
  match st, ht, hw with
  | .int x :: .int i :: .ref a :: st, ht, hw =>
    obtain ⟨k, f, h1, h2, h3⟩ := ht
    have hg := zW_get (dA := dA) (ad := ad) (h := h) (zws_ref (zws_tl (zws_tl hw.2.1)))
    rw [h1] at hg
    refine va_zast F.1 F.2.1 hK hP hD hS a 1 hg rfl h2 hd fun H1 locs1 hP1 hD1 hS1 => ?_
    have e9 := zW_set (dA := dA) (ad := ad) (h := h) (n := n) (a := a) (c := .inl (1, k, .inl (upd f i.toNatClampNeg (vp_nar .boolean x))))
    exact h3 ⟨hw.1, zws_tl (zws_tl (zws_tl hw.2.1)), zwh_set hw.2.2 trivial⟩ hr hnn ad H1 locs1 lsA ha (e9 ▸ hP1) (e9 ▸ hD1) hS1 hl
theorem zs_last (F : CallFix p m c cc nL s args Ts own) (hK : va_K D cl (zTys dA SC) s) {nx : Nat} (hd : decode cc pc = .ok (.lastore, 1)) (hn : pc + 1 = nx) : zSnd (zConc p l e R s m args below meth c Qf nL D cl dA A ad0 n0) C R' pc (zt_last nx) := by
  intro ls st h n cu su ht hw hr hnn ad H locs lsA ha hP hD hS hl
  subst hn
  match st, ht, hw with
  | .long x :: .int i :: .ref a :: st, ht, hw =>
    obtain ⟨k, f, h1, h2, h3⟩ := ht
    have hg := zW_get (dA := dA) (ad := ad) (h := h) (zws_ref (zws_tl (zws_tl hw.2.1)))
    rw [h1] at hg
    refine va_last F.1 F.2.1 hK hP hD hS a 2 hg rfl h2 hd fun H1 locs1 hP1 hD1 hS1 => ?_
    have e9 := zW_set (dA := dA) (ad := ad) (h := h) (n := n) (a := a) (c := .inl (2, k, .inr (.inl (vp_updL f i.toNatClampNeg x))))
    exact h3 ⟨hw.1, zws_tl (zws_tl (zws_tl hw.2.1)), zwh_set hw.2.2 trivial⟩ hr hnn ad H1 locs1 lsA ha (e9 ▸ hP1) (e9 ▸ hD1) hS1 hl
theorem zs_dast (F : CallFix p m c cc nL s args Ts own) (hK : va_K D cl (zTys dA SC) s) {nx : Nat} (hd : decode cc pc = .ok (.dastore, 1)) (hn : pc + 1 = nx) : zSnd (zConc p l e R s m args below meth c Qf nL D cl dA A ad0 n0) C R' pc (zt_dast nx) := by
  intro ls st h n cu su ht hw hr hnn ad H locs lsA ha hP hD hS hl
  subst hn
  match st, ht, hw with
  | .double x :: .int i :: .ref a :: st, ht, hw =>
    obtain ⟨k, f, h1, h2, h3⟩ := ht
    have hg := zW_get (dA := dA) (ad := ad) (h := h) (zws_ref (zws_tl (zws_tl hw.2.1)))
    rw [h1] at hg
    refine va_dast F.1 F.2.1 hK hP hD hS a 3 hg rfl h2 hd fun H1 locs1 hP1 hD1 hS1 => ?_
    have e9 := zW_set (dA := dA) (ad := ad) (h := h) (n := n) (a := a) (c := .inl (3, k, .inr (.inr (.inr (.inl (vf_upd f i.toNatClampNeg x))))))
    exact h3 ⟨hw.1, zws_tl (zws_tl (zws_tl hw.2.1)), zwh_set hw.2.2 trivial⟩ hr hnn ad H1 locs1 lsA ha (e9 ▸ hP1) (e9 ▸ hD1) hS1 hl
theorem zs_aast (F : CallFix p m c cc nL s args Ts own) (hK : va_K D cl (zTys dA SC) s) {ci nx : Nat} {T : u_T} {N : Nat} (hc : cl[ci]? = some (SC, T, N)) (hd : decode cc pc = .ok (.aastore, 1)) (hn : pc + 1 = nx) : zSnd (zConc p l e R s m args below meth c Qf nL D cl dA A ad0 n0) C R' pc (zt_aast ci nx) := by
  intro ls st h n cu su ht hw hr hnn ad H locs lsA ha hP hD hS hl
  subst hn
  match st, ht, hw with
  | .ref v :: .int i :: .ref a :: st, ht, hw =>
    obtain ⟨k, f, h1, ⟨fs, hv⟩, h2, h3⟩ := ht
    have hal := zws_ref (zws_tl (zws_tl hw.2.1))
    have hg := zW_get (dA := dA) (ad := ad) (h := h) hal
    rw [h1] at hg
    have hgv := zW_get (dA := dA) (ad := ad) (h := h) (zws_ref hw.2.1)
    rw [hv] at hgv
    have hwa := hw.2.2 a hal
    rw [h1] at hwa
    refine va_astq F.1 F.2.1 hK hP hD hS a 4 v ci hg rfl hgv hc h2 hd fun H1 locs1 hP1 hD1 hS1 => ?_
    have e9 := zW_set (dA := dA) (ad := ad) (h := h) (n := n) (a := a) (c := .inl (4, k, .inr (.inr (.inr (.inr (va_up f i.toNatClampNeg (some v)))))))
    have e8 : (fun j => (va_up f i.toNatClampNeg (some v) j).map ad) = va_up (fun j => (f j).map ad) i.toNatClampNeg (some (ad v)) := by
      funext j
      unfold va_up
      split <;> rfl
    have e7 : zcell ad dA (.inl (4, k, .inr (.inr (.inr (.inr (va_up f i.toNatClampNeg (some v))))))) = .inl (dA 4, k, .inr (.inr (.inr (.inr (va_up (fun j => (f j).map ad) i.toNatClampNeg (some (ad v))))))) := by
      show Sum.inl (dA 4, k, Sum.inr (Sum.inr (Sum.inr (Sum.inr (fun j => (va_up f i.toNatClampNeg (some v) j).map ad))))) = _
      rw [e8]
    rw [e7] at e9
    refine h3 ⟨hw.1, zws_tl (zws_tl (zws_tl hw.2.1)), zwh_set hw.2.2 fun j b hb => ?_⟩ hr hnn ad H1 locs1 lsA ha (e9 ▸ hP1) (e9 ▸ hD1) hS1 hl
    unfold va_up at hb
    split at hb
    · cases hb; exact zws_ref hw.2.1
    · exact hwa j b hb
theorem zs_alen (F : CallFix p m c cc nL s args Ts own) (hK : va_K D cl (zTys dA SC) s) {nx : Nat} (hd : decode cc pc = .ok (.arraylength, 1)) (hn : pc + 1 = nx) : zSnd (zConc p l e R s m args below meth c Qf nL D cl dA A ad0 n0) C R' pc (zt_alen nx) := by
  intro ls st h n cu su ht hw hr hnn ad H locs lsA ha hP hD hS hl
  subst hn
  match st, ht, hw with
  | .ref a :: st, ht, hw =>
    obtain ⟨t, x, h1, h2, h3⟩ := ht
    have hg := zW_get (dA := dA) (ad := ad) (h := h) (zws_ref hw.2.1)
    rw [h1] at hg
    have e9 : (zarr ad x).1 = x.1 := by
      obtain ⟨z, f | f | f | f | f⟩ := x <;> rfl
    have k9 := h3 ⟨hw.1, zws_cons zwv_int (zws_tl hw.2.1), hw.2.2⟩ hr hnn ad H locs lsA ha hP hD hS hl
    match t, h2, hg with
    | 0, _, hg => exact va_alen F.1 F.2.1 hK hP a 0 hg rfl (by rw [e9]) hd k9
    | 1, _, hg => exact va_alen F.1 F.2.1 hK hP a 1 hg rfl (by rw [e9]) hd k9
    | 2, _, hg => exact va_alen F.1 F.2.1 hK hP a 2 hg rfl (by rw [e9]) hd k9
    | 3, _, hg => exact va_alen F.1 F.2.1 hK hP a 3 hg rfl (by rw [e9]) hd k9
    | 4, _, hg => exact va_alen F.1 F.2.1 hK hP a 4 hg rfl (by rw [e9]) hd k9
theorem zs_getf (F : CallFix p m c cc nL s args Ts own) (hK : va_K D cl (zTys dA SC) s) {ci k nx index N : Nat} {Cn ref : String} {T : u_T} (hin : ∀ w ∈ u_ws Cn T N, w ∈ Ts) (hc : cl[ci]? = some (Cn, T, N)) (hk : k < N) (hlink : Cond.fieldLink own index ref (T k).2.1 (T k).2.2.1 ∈ Ts) (href : (T k).1 = ref) (hd : decode cc pc = .ok (.getfield index, 3)) (hn : pc + 3 = nx) : zSnd (zConc p l e R s m args below meth c Qf nL D cl dA A ad0 n0) C R' pc (zt_getf ci k nx) := by
  intro ls st h n cu su ht hw hr hnn ad H locs lsA ha hP hD hS hl
  subst hn
  match st, ht, hw with
  | .ref b :: st, ht, hw =>
    obtain ⟨fs, h1, v, h2, h3⟩ := ht
    have hbl := zws_ref hw.2.1
    have hg := zW_get (dA := dA) (ad := ad) (h := h) hbl
    rw [h1] at hg
    have hwa := hw.2.2 b hbl
    rw [h1] at hwa
    exact va_get F.1 F.2.1 F.2.2.2.2 hin F.2.2.2.1 hK hP b hg hc k hk (F.2.2.2.2 _ hlink) (fun x h9 => by rw [← href]; exact h9) (by show (fs.map (zv ad))[k]? = _; rw [List.getElem?_map, h2]; rfl) hd (h3 ⟨hw.1, zws_cons (hwa v (List.mem_of_getElem? h2)) (zws_tl hw.2.1), hw.2.2⟩ hr hnn ad H locs lsA ha hP hD hS hl)
theorem zs_fits {ad : Nat → Nat} {ty : FieldType} {v : Value} (h : narrow ty v = v ∧ fits ty v = true) : narrow ty (zv ad v) = zv ad v ∧ fits ty (zv ad v) = true := by
  cases v with
  | ref a =>
    refine ⟨by cases ty <;> rfl, ?_⟩
    cases ty <;> first | rfl | exact h.2
  | _ => exact h
theorem zs_put9 {ad : Nat → Nat} {dA : Nat → ClassId} {h : zH} {n b ci k : Nat} {fs : List Value} {v : Value} : (zW dA ad h n).set b (ad b, .inr (ci, (fs.map (zv ad)).set k (zv ad v))) = zW dA ad (zupd h b (.inr (ci, fs.set k v))) n := by
  rw [← List.map_set]
  exact zW_set (c := .inr (ci, fs.set k v))
theorem zwc_put {n ci k : Nat} {fs : List Value} {v : Value} (h : zwc n (.inr (ci, fs))) (hv : zwv n v) : zwc n (.inr (ci, fs.set k v)) := fun w hw => by
  rcases List.mem_or_eq_of_mem_set hw with h1 | h1
  · exact h w h1
  · rw [h1]; exact hv
theorem zs_putf (F : CallFix p m c cc nL s args Ts own) (hK : va_K D cl (zTys dA SC) s) {ci k nx index N : Nat} {Cn ref : String} {T : u_T} {ty : FieldType} (hin : ∀ w ∈ u_ws Cn T N, w ∈ Ts) (ty0 : Nat → FieldType) (hty : ∀ k, k < N → parseFieldDescriptor (T k).2.2.1 = some (ty0 k)) (hnm : ∀ a, a < N → ∀ b, b < N → a ≠ b → (T a).2.1 ≠ (T b).2.1) (hc : cl[ci]? = some (Cn, T, N)) (hk : k < N) (hlink : Cond.fieldLink own index ref (T k).2.1 (T k).2.2.1 ∈ Ts) (href : (T k).1 = ref) (hfin : (T k).2.2.2 = false) (hd9 : parseFieldDescriptor (T k).2.2.1 = some ty) (hd : decode cc pc = .ok (.putfield index, 3)) (hn : pc + 3 = nx) : zSnd (zConc p l e R s m args below meth c Qf nL D cl dA A ad0 n0) C R' pc (zt_putf ci k ty nx) := by
  intro ls st h n cu su ht hw hr hnn ad H locs lsA ha hP hD hS hl
  subst hn
  match st, ht, hw with
  | v :: .ref b :: st, ht, hw =>
    obtain ⟨fs, h1, h2, h4, h3⟩ := ht
    have hbl := zws_ref (zws_tl hw.2.1)
    have hg := zW_get (dA := dA) (ad := ad) (h := h) hbl
    rw [h1] at hg
    have hwa := hw.2.2 b hbl
    rw [h1] at hwa
    refine va_put F.1 F.2.1 F.2.2.2.2 hin ty0 hty hnm F.2.2.2.1 hK hP hD hS b hg hc k hk (F.2.2.2.2 _ hlink) (fun x h9 => by rw [← href]; exact h9) hfin hd9 (zs_fits h4).1 (zs_fits h4).2 (by rw [List.length_map]; exact h2) hd fun H1 locs1 hP1 hD1 hS1 => ?_
    rw [zs_put9] at hP1 hD1
    exact h3 ⟨hw.1, zws_tl (zws_tl hw.2.1), zwh_set hw.2.2 (zwc_put hwa (zws_hd hw.2.1))⟩ hr hnn ad H1 locs1 lsA ha hP1 hD1 hS1 hl
theorem zs_putfF (F : CallFix p m c cc nL s args Ts own) (hK : va_K D cl (zTys dA SC) s) {ci k nx index N : Nat} {Cn ref : String} {T : u_T} {ty : FieldType} (hin : ∀ w ∈ u_ws Cn T N, w ∈ Ts) (ty0 : Nat → FieldType) (hty : ∀ k, k < N → parseFieldDescriptor (T k).2.2.1 = some (ty0 k)) (hnm : ∀ a, a < N → ∀ b, b < N → a ≠ b → (T a).2.1 ≠ (T b).2.1) (hc : cl[ci]? = some (Cn, T, N)) (hk : k < N) (hlink : Cond.fieldLink own index ref (T k).2.1 (T k).2.2.1 ∈ Ts) (href : (T k).1 = ref) (hfin : (T k).2.2.2 = true) (hin2 : meth.name = "<init>") (hdecl : (T k).1 = own) (hd9 : parseFieldDescriptor (T k).2.2.1 = some ty) (hd : decode cc pc = .ok (.putfield index, 3)) (hn : pc + 3 = nx) : zSnd (zConc p l e R s m args below meth c Qf nL D cl dA A ad0 n0) C R' pc (zt_putf ci k ty nx) := by
  intro ls st h n cu su ht hw hr hnn ad H locs lsA ha hP hD hS hl
  subst hn
  match st, ht, hw with
  | v :: .ref b :: st, ht, hw =>
    obtain ⟨fs, h1, h2, h4, h3⟩ := ht
    have hbl := zws_ref (zws_tl hw.2.1)
    have hg := zW_get (dA := dA) (ad := ad) (h := h) hbl
    rw [h1] at hg
    have hwa := hw.2.2 b hbl
    rw [h1] at hwa
    refine va_putF F.1 F.2.1 F.2.2.2.2 hin ty0 hty hnm F.2.2.2.1 hK hP hD hS b hg hc k hk (F.2.2.2.2 _ hlink) (fun x h9 => by rw [← href]; exact h9) hfin hin2 hdecl hd9 (zs_fits h4).1 (zs_fits h4).2 (by rw [List.length_map]; exact h2) hd fun H1 locs1 hP1 hD1 hS1 => ?_
    rw [zs_put9] at hP1 hD1
    exact h3 ⟨hw.1, zws_tl (zws_tl hw.2.1), zwh_set hw.2.2 (zwc_put hwa (zws_hd hw.2.1))⟩ hr hnn ad H1 locs1 lsA ha hP1 hD1 hS1 hl
end ZSound
end
