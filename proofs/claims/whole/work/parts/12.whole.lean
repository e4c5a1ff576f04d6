/-! returns, and whole methods -/
def zNR (f : zmI) : Prop := ∀ (K : zmK) (c : zmC) (r : zmR), f K c ≠ some (.inr r)
theorem zn_push {nx : Nat} {z : Int} : zNR (zm_push nx z) := by
  intro K c r h
  unfold zm_push at h
  first
    | (cases h; done)
    | (split at h <;> first | (cases h; done) | (simp [Option.bind_eq_some_iff] at h; done) | (split at h <;> first | (cases h; done) | (simp [Option.bind_eq_some_iff] at h; done)))
    | (simp [Option.bind_eq_some_iff] at h; done)
theorem zn_pushl {nx : Nat} {z : Int} : zNR (zm_pushl nx z) := by
  intro K c r h
  unfold zm_pushl at h
  first
    | (cases h; done)
    | (split at h <;> first | (cases h; done) | (simp [Option.bind_eq_some_iff] at h; done) | (split at h <;> first | (cases h; done) | (simp [Option.bind_eq_some_iff] at h; done)))
    | (simp [Option.bind_eq_some_iff] at h; done)
theorem zn_pushr {nx a : Nat} : zNR (zm_pushr nx a) := by
  intro K c r h
  unfold zm_pushr at h
  first
    | (cases h; done)
    | (split at h <;> first | (cases h; done) | (simp [Option.bind_eq_some_iff] at h; done) | (split at h <;> first | (cases h; done) | (simp [Option.bind_eq_some_iff] at h; done)))
    | (simp [Option.bind_eq_some_iff] at h; done)
theorem zn_iload {nx i : Nat} : zNR (zm_iload nx i) := by
  intro K c r h
  unfold zm_iload at h
  first
    | (cases h; done)
    | (split at h <;> first | (cases h; done) | (simp [Option.bind_eq_some_iff] at h; done) | (split at h <;> first | (cases h; done) | (simp [Option.bind_eq_some_iff] at h; done)))
    | (simp [Option.bind_eq_some_iff] at h; done)
theorem zn_lload {nx i : Nat} : zNR (zm_lload nx i) := by
  intro K c r h
  unfold zm_lload at h
  first
    | (cases h; done)
    | (split at h <;> first | (cases h; done) | (simp [Option.bind_eq_some_iff] at h; done) | (split at h <;> first | (cases h; done) | (simp [Option.bind_eq_some_iff] at h; done)))
    | (simp [Option.bind_eq_some_iff] at h; done)
theorem zn_aload {nx i : Nat} : zNR (zm_aload nx i) := by
  intro K c r h
  unfold zm_aload at h
  first
    | (cases h; done)
    | (split at h <;> first | (cases h; done) | (simp [Option.bind_eq_some_iff] at h; done) | (split at h <;> first | (cases h; done) | (simp [Option.bind_eq_some_iff] at h; done)))
    | (simp [Option.bind_eq_some_iff] at h; done)
theorem zn_istore {nx i : Nat} : zNR (zm_istore nx i) := by
  intro K c r h
  unfold zm_istore at h
  first
    | (cases h; done)
    | (split at h <;> first | (cases h; done) | (simp [Option.bind_eq_some_iff] at h; done) | (split at h <;> first | (cases h; done) | (simp [Option.bind_eq_some_iff] at h; done)))
    | (simp [Option.bind_eq_some_iff] at h; done)
theorem zn_lstore {nx i : Nat} : zNR (zm_lstore nx i) := by
  intro K c r h
  unfold zm_lstore at h
  first
    | (cases h; done)
    | (split at h <;> first | (cases h; done) | (simp [Option.bind_eq_some_iff] at h; done) | (split at h <;> first | (cases h; done) | (simp [Option.bind_eq_some_iff] at h; done)))
    | (simp [Option.bind_eq_some_iff] at h; done)
theorem zn_astore {nx i : Nat} : zNR (zm_astore nx i) := by
  intro K c r h
  unfold zm_astore at h
  first
    | (cases h; done)
    | (split at h <;> first | (cases h; done) | (simp [Option.bind_eq_some_iff] at h; done) | (split at h <;> first | (cases h; done) | (simp [Option.bind_eq_some_iff] at h; done)))
    | (simp [Option.bind_eq_some_iff] at h; done)
theorem zn_iinc {nx i : Nat} {k : Int} : zNR (zm_iinc nx i k) := by
  intro K c r h
  unfold zm_iinc at h
  first
    | (cases h; done)
    | (split at h <;> first | (cases h; done) | (simp [Option.bind_eq_some_iff] at h; done) | (split at h <;> first | (cases h; done) | (simp [Option.bind_eq_some_iff] at h; done)))
    | (simp [Option.bind_eq_some_iff] at h; done)
theorem zn_dup {nx : Nat} : zNR (zm_dup nx) := by
  intro K c r h
  unfold zm_dup at h
  first
    | (cases h; done)
    | (split at h <;> first | (cases h; done) | (simp [Option.bind_eq_some_iff] at h; done) | (split at h <;> first | (cases h; done) | (simp [Option.bind_eq_some_iff] at h; done)))
    | (simp [Option.bind_eq_some_iff] at h; done)
theorem zn_pop {nx : Nat} : zNR (zm_pop nx) := by
  intro K c r h
  unfold zm_pop at h
  first
    | (cases h; done)
    | (split at h <;> first | (cases h; done) | (simp [Option.bind_eq_some_iff] at h; done) | (split at h <;> first | (cases h; done) | (simp [Option.bind_eq_some_iff] at h; done)))
    | (simp [Option.bind_eq_some_iff] at h; done)
theorem zn_dup2 {nx : Nat} : zNR (zm_dup2 nx) := by
  intro K c r h
  unfold zm_dup2 at h
  first
    | (cases h; done)
    | (split at h <;> first | (cases h; done) | (simp [Option.bind_eq_some_iff] at h; done) | (split at h <;> first | (cases h; done) | (simp [Option.bind_eq_some_iff] at h; done)))
    | (simp [Option.bind_eq_some_iff] at h; done)
theorem zn_bin {nx : Nat} {f : Int → Int → Int} : zNR (zm_bin nx f) := by
  intro K c r h
  unfold zm_bin at h
  first
    | (cases h; done)
    | (split at h <;> first | (cases h; done) | (simp [Option.bind_eq_some_iff] at h; done) | (split at h <;> first | (cases h; done) | (simp [Option.bind_eq_some_iff] at h; done)))
    | (simp [Option.bind_eq_some_iff] at h; done)
theorem zn_binl {nx : Nat} {f : Int → Int → Int} : zNR (zm_binl nx f) := by
  intro K c r h
  unfold zm_binl at h
  first
    | (cases h; done)
    | (split at h <;> first | (cases h; done) | (simp [Option.bind_eq_some_iff] at h; done) | (split at h <;> first | (cases h; done) | (simp [Option.bind_eq_some_iff] at h; done)))
    | (simp [Option.bind_eq_some_iff] at h; done)
theorem zn_quo {nx : Nat} {f : Int → Int → Int} : zNR (zm_quo nx f) := by
  intro K c r h
  unfold zm_quo at h
  first
    | (cases h; done)
    | (split at h <;> first | (cases h; done) | (simp [Option.bind_eq_some_iff] at h; done) | (split at h <;> first | (cases h; done) | (simp [Option.bind_eq_some_iff] at h; done)))
    | (simp [Option.bind_eq_some_iff] at h; done)
theorem zn_quol {nx : Nat} {f : Int → Int → Int} : zNR (zm_quol nx f) := by
  intro K c r h
  unfold zm_quol at h
  first
    | (cases h; done)
    | (split at h <;> first | (cases h; done) | (simp [Option.bind_eq_some_iff] at h; done) | (split at h <;> first | (cases h; done) | (simp [Option.bind_eq_some_iff] at h; done)))
    | (simp [Option.bind_eq_some_iff] at h; done)
theorem zn_shl {nx : Nat} {f : Int → Int → Int} : zNR (zm_shl nx f) := by
  intro K c r h
  unfold zm_shl at h
  first
    | (cases h; done)
    | (split at h <;> first | (cases h; done) | (simp [Option.bind_eq_some_iff] at h; done) | (split at h <;> first | (cases h; done) | (simp [Option.bind_eq_some_iff] at h; done)))
    | (simp [Option.bind_eq_some_iff] at h; done)
theorem zn_un {nx : Nat} {f : Int → Int} : zNR (zm_un nx f) := by
  intro K c r h
  unfold zm_un at h
  first
    | (cases h; done)
    | (split at h <;> first | (cases h; done) | (simp [Option.bind_eq_some_iff] at h; done) | (split at h <;> first | (cases h; done) | (simp [Option.bind_eq_some_iff] at h; done)))
    | (simp [Option.bind_eq_some_iff] at h; done)
theorem zn_unl {nx : Nat} {f : Int → Int} : zNR (zm_unl nx f) := by
  intro K c r h
  unfold zm_unl at h
  first
    | (cases h; done)
    | (split at h <;> first | (cases h; done) | (simp [Option.bind_eq_some_iff] at h; done) | (split at h <;> first | (cases h; done) | (simp [Option.bind_eq_some_iff] at h; done)))
    | (simp [Option.bind_eq_some_iff] at h; done)
theorem zn_i2l {nx : Nat} : zNR (zm_i2l nx) := by
  intro K c r h
  unfold zm_i2l at h
  first
    | (cases h; done)
    | (split at h <;> first | (cases h; done) | (simp [Option.bind_eq_some_iff] at h; done) | (split at h <;> first | (cases h; done) | (simp [Option.bind_eq_some_iff] at h; done)))
    | (simp [Option.bind_eq_some_iff] at h; done)
theorem zn_l2i {nx : Nat} : zNR (zm_l2i nx) := by
  intro K c r h
  unfold zm_l2i at h
  first
    | (cases h; done)
    | (split at h <;> first | (cases h; done) | (simp [Option.bind_eq_some_iff] at h; done) | (split at h <;> first | (cases h; done) | (simp [Option.bind_eq_some_iff] at h; done)))
    | (simp [Option.bind_eq_some_iff] at h; done)
theorem zn_lcmp {nx : Nat} : zNR (zm_lcmp nx) := by
  intro K c r h
  unfold zm_lcmp at h
  first
    | (cases h; done)
    | (split at h <;> first | (cases h; done) | (simp [Option.bind_eq_some_iff] at h; done) | (split at h <;> first | (cases h; done) | (simp [Option.bind_eq_some_iff] at h; done)))
    | (simp [Option.bind_eq_some_iff] at h; done)
theorem zn_goto {t : Nat} : zNR (zm_goto t) := by
  intro K c r h
  unfold zm_goto at h
  first
    | (cases h; done)
    | (split at h <;> first | (cases h; done) | (simp [Option.bind_eq_some_iff] at h; done) | (split at h <;> first | (cases h; done) | (simp [Option.bind_eq_some_iff] at h; done)))
    | (simp [Option.bind_eq_some_iff] at h; done)
theorem zn_ifeq {nx t : Nat} : zNR (zm_ifeq nx t) := by
  intro K c r h
  unfold zm_ifeq at h
  first
    | (cases h; done)
    | (split at h <;> first | (cases h; done) | (simp [Option.bind_eq_some_iff] at h; done) | (split at h <;> first | (cases h; done) | (simp [Option.bind_eq_some_iff] at h; done)))
    | (simp [Option.bind_eq_some_iff] at h; done)
theorem zn_ifne {nx t : Nat} : zNR (zm_ifne nx t) := by
  intro K c r h
  unfold zm_ifne at h
  first
    | (cases h; done)
    | (split at h <;> first | (cases h; done) | (simp [Option.bind_eq_some_iff] at h; done) | (split at h <;> first | (cases h; done) | (simp [Option.bind_eq_some_iff] at h; done)))
    | (simp [Option.bind_eq_some_iff] at h; done)
theorem zn_iflt {nx t : Nat} : zNR (zm_iflt nx t) := by
  intro K c r h
  unfold zm_iflt at h
  first
    | (cases h; done)
    | (split at h <;> first | (cases h; done) | (simp [Option.bind_eq_some_iff] at h; done) | (split at h <;> first | (cases h; done) | (simp [Option.bind_eq_some_iff] at h; done)))
    | (simp [Option.bind_eq_some_iff] at h; done)
theorem zn_ifge {nx t : Nat} : zNR (zm_ifge nx t) := by
  intro K c r h
  unfold zm_ifge at h
  first
    | (cases h; done)
    | (split at h <;> first | (cases h; done) | (simp [Option.bind_eq_some_iff] at h; done) | (split at h <;> first | (cases h; done) | (simp [Option.bind_eq_some_iff] at h; done)))
    | (simp [Option.bind_eq_some_iff] at h; done)
theorem zn_ifgt {nx t : Nat} : zNR (zm_ifgt nx t) := by
  intro K c r h
  unfold zm_ifgt at h
  first
    | (cases h; done)
    | (split at h <;> first | (cases h; done) | (simp [Option.bind_eq_some_iff] at h; done) | (split at h <;> first | (cases h; done) | (simp [Option.bind_eq_some_iff] at h; done)))
    | (simp [Option.bind_eq_some_iff] at h; done)
theorem zn_ifle {nx t : Nat} : zNR (zm_ifle nx t) := by
  intro K c r h
  unfold zm_ifle at h
  first
    | (cases h; done)
    | (split at h <;> first | (cases h; done) | (simp [Option.bind_eq_some_iff] at h; done) | (split at h <;> first | (cases h; done) | (simp [Option.bind_eq_some_iff] at h; done)))
    | (simp [Option.bind_eq_some_iff] at h; done)
theorem zn_iceq {nx t : Nat} : zNR (zm_iceq nx t) := by
  intro K c r h
  unfold zm_iceq at h
  first
    | (cases h; done)
    | (split at h <;> first | (cases h; done) | (simp [Option.bind_eq_some_iff] at h; done) | (split at h <;> first | (cases h; done) | (simp [Option.bind_eq_some_iff] at h; done)))
    | (simp [Option.bind_eq_some_iff] at h; done)
theorem zn_icne {nx t : Nat} : zNR (zm_icne nx t) := by
  intro K c r h
  unfold zm_icne at h
  first
    | (cases h; done)
    | (split at h <;> first | (cases h; done) | (simp [Option.bind_eq_some_iff] at h; done) | (split at h <;> first | (cases h; done) | (simp [Option.bind_eq_some_iff] at h; done)))
    | (simp [Option.bind_eq_some_iff] at h; done)
theorem zn_iclt {nx t : Nat} : zNR (zm_iclt nx t) := by
  intro K c r h
  unfold zm_iclt at h
  first
    | (cases h; done)
    | (split at h <;> first | (cases h; done) | (simp [Option.bind_eq_some_iff] at h; done) | (split at h <;> first | (cases h; done) | (simp [Option.bind_eq_some_iff] at h; done)))
    | (simp [Option.bind_eq_some_iff] at h; done)
theorem zn_icge {nx t : Nat} : zNR (zm_icge nx t) := by
  intro K c r h
  unfold zm_icge at h
  first
    | (cases h; done)
    | (split at h <;> first | (cases h; done) | (simp [Option.bind_eq_some_iff] at h; done) | (split at h <;> first | (cases h; done) | (simp [Option.bind_eq_some_iff] at h; done)))
    | (simp [Option.bind_eq_some_iff] at h; done)
theorem zn_icgt {nx t : Nat} : zNR (zm_icgt nx t) := by
  intro K c r h
  unfold zm_icgt at h
  first
    | (cases h; done)
    | (split at h <;> first | (cases h; done) | (simp [Option.bind_eq_some_iff] at h; done) | (split at h <;> first | (cases h; done) | (simp [Option.bind_eq_some_iff] at h; done)))
    | (simp [Option.bind_eq_some_iff] at h; done)
theorem zn_icle {nx t : Nat} : zNR (zm_icle nx t) := by
  intro K c r h
  unfold zm_icle at h
  first
    | (cases h; done)
    | (split at h <;> first | (cases h; done) | (simp [Option.bind_eq_some_iff] at h; done) | (split at h <;> first | (cases h; done) | (simp [Option.bind_eq_some_iff] at h; done)))
    | (simp [Option.bind_eq_some_iff] at h; done)
theorem zn_tsw {df : Nat} {lo hi : Int} {ts : List Nat} : zNR (zm_tsw df lo hi ts) := by
  intro K c r h
  unfold zm_tsw at h
  first
    | (cases h; done)
    | (split at h <;> first | (cases h; done) | (simp [Option.bind_eq_some_iff] at h; done) | (split at h <;> first | (cases h; done) | (simp [Option.bind_eq_some_iff] at h; done)))
    | (simp [Option.bind_eq_some_iff] at h; done)
theorem zn_getI {nx ci : Nat} {k : Int} : zNR (zm_getI nx ci k) := by
  intro K c r h
  unfold zm_getI at h
  first
    | (cases h; done)
    | (split at h <;> first | (cases h; done) | (simp [Option.bind_eq_some_iff] at h; done) | (split at h <;> first | (cases h; done) | (simp [Option.bind_eq_some_iff] at h; done)))
    | (simp [Option.bind_eq_some_iff] at h; done)
theorem zn_getR {nx ci : Nat} {k : Int} : zNR (zm_getR nx ci k) := by
  intro K c r h
  unfold zm_getR at h
  first
    | (cases h; done)
    | (split at h <;> first | (cases h; done) | (simp [Option.bind_eq_some_iff] at h; done) | (split at h <;> first | (cases h; done) | (simp [Option.bind_eq_some_iff] at h; done)))
    | (simp [Option.bind_eq_some_iff] at h; done)
theorem zn_putI {nx ci : Nat} {k : Int} : zNR (zm_putI nx ci k) := by
  intro K c r h
  unfold zm_putI at h
  first
    | (cases h; done)
    | (split at h <;> first | (cases h; done) | (simp [Option.bind_eq_some_iff] at h; done) | (split at h <;> first | (cases h; done) | (simp [Option.bind_eq_some_iff] at h; done)))
    | (simp [Option.bind_eq_some_iff] at h; done)
theorem zn_putZ {nx ci : Nat} {k : Int} : zNR (zm_putZ nx ci k) := by
  intro K c r h
  unfold zm_putZ at h
  first
    | (cases h; done)
    | (split at h <;> first | (cases h; done) | (simp [Option.bind_eq_some_iff] at h; done) | (split at h <;> first | (cases h; done) | (simp [Option.bind_eq_some_iff] at h; done)))
    | (simp [Option.bind_eq_some_iff] at h; done)
theorem zn_putR {nx ci : Nat} {k : Int} : zNR (zm_putR nx ci k) := by
  intro K c r h
  unfold zm_putR at h
  first
    | (cases h; done)
    | (split at h <;> first | (cases h; done) | (simp [Option.bind_eq_some_iff] at h; done) | (split at h <;> first | (cases h; done) | (simp [Option.bind_eq_some_iff] at h; done)))
    | (simp [Option.bind_eq_some_iff] at h; done)
theorem zn_ald {nx t : Nat} : zNR (zm_ald nx t) := by
  intro K c r h
  unfold zm_ald at h
  first
    | (cases h; done)
    | (split at h <;> first | (cases h; done) | (simp [Option.bind_eq_some_iff] at h; done) | (split at h <;> first | (cases h; done) | (simp [Option.bind_eq_some_iff] at h; done)))
    | (simp [Option.bind_eq_some_iff] at h; done)
theorem zn_lald {nx : Nat} : zNR (zm_lald nx) := by
  intro K c r h
  unfold zm_lald at h
  first
    | (cases h; done)
    | (split at h <;> first | (cases h; done) | (simp [Option.bind_eq_some_iff] at h; done) | (split at h <;> first | (cases h; done) | (simp [Option.bind_eq_some_iff] at h; done)))
    | (simp [Option.bind_eq_some_iff] at h; done)
theorem zn_aald {nx t : Nat} : zNR (zm_aald nx t) := by
  intro K c r h
  unfold zm_aald at h
  first
    | (cases h; done)
    | (split at h <;> first | (cases h; done) | (simp [Option.bind_eq_some_iff] at h; done) | (split at h <;> first | (cases h; done) | (simp [Option.bind_eq_some_iff] at h; done)))
    | (simp [Option.bind_eq_some_iff] at h; done)
theorem zn_iast {nx : Nat} : zNR (zm_iast nx) := by
  intro K c r h
  unfold zm_iast at h
  first
    | (cases h; done)
    | (split at h <;> first | (cases h; done) | (simp [Option.bind_eq_some_iff] at h; done) | (split at h <;> first | (cases h; done) | (simp [Option.bind_eq_some_iff] at h; done)))
    | (simp [Option.bind_eq_some_iff] at h; done)
theorem zn_zast {nx : Nat} : zNR (zm_zast nx) := by
  intro K c r h
  unfold zm_zast at h
  first
    | (cases h; done)
    | (split at h <;> first | (cases h; done) | (simp [Option.bind_eq_some_iff] at h; done) | (split at h <;> first | (cases h; done) | (simp [Option.bind_eq_some_iff] at h; done)))
    | (simp [Option.bind_eq_some_iff] at h; done)
theorem zn_last {nx : Nat} : zNR (zm_last nx) := by
  intro K c r h
  unfold zm_last at h
  first
    | (cases h; done)
    | (split at h <;> first | (cases h; done) | (simp [Option.bind_eq_some_iff] at h; done) | (split at h <;> first | (cases h; done) | (simp [Option.bind_eq_some_iff] at h; done)))
    | (simp [Option.bind_eq_some_iff] at h; done)
theorem zn_aast {nx t ci : Nat} : zNR (zm_aast nx t ci) := by
  intro K c r h
  unfold zm_aast at h
  first
    | (cases h; done)
    | (split at h <;> first | (cases h; done) | (simp [Option.bind_eq_some_iff] at h; done) | (split at h <;> first | (cases h; done) | (simp [Option.bind_eq_some_iff] at h; done)))
    | (simp [Option.bind_eq_some_iff] at h; done)
theorem zn_alen {nx : Nat} : zNR (zm_alen nx) := by
  intro K c r h
  unfold zm_alen at h
  first
    | (cases h; done)
    | (split at h <;> first | (cases h; done) | (simp [Option.bind_eq_some_iff] at h; done) | (split at h <;> first | (cases h; done) | (simp [Option.bind_eq_some_iff] at h; done)))
    | (simp [Option.bind_eq_some_iff] at h; done)
theorem zn_newa {nx t : Nat} : zNR (zm_newa nx t) := by
  intro K c r h
  unfold zm_newa at h
  first
    | (cases h; done)
    | (split at h <;> first | (cases h; done) | (simp [Option.bind_eq_some_iff] at h; done) | (split at h <;> first | (cases h; done) | (simp [Option.bind_eq_some_iff] at h; done)))
    | (simp [Option.bind_eq_some_iff] at h; done)
theorem zn_new {nx ci N : Nat} : zNR (zm_new nx ci N) := by
  intro K c r h
  unfold zm_new at h
  first
    | (cases h; done)
    | (split at h <;> first | (cases h; done) | (simp [Option.bind_eq_some_iff] at h; done) | (split at h <;> first | (cases h; done) | (simp [Option.bind_eq_some_iff] at h; done)))
    | (simp [Option.bind_eq_some_iff] at h; done)
theorem zn_obj {nx : Nat} : zNR (zm_obj nx) := by
  intro K c r h
  unfold zm_obj at h
  first
    | (cases h; done)
    | (split at h <;> first | (cases h; done) | (simp [Option.bind_eq_some_iff] at h; done) | (split at h <;> first | (cases h; done) | (simp [Option.bind_eq_some_iff] at h; done)))
    | (simp [Option.bind_eq_some_iff] at h; done)
theorem zn_copy {nx : Nat} : zNR (zm_copy nx) := by
  intro K c r h
  unfold zm_copy at h
  first
    | (cases h; done)
    | (split at h <;> first | (cases h; done) | (simp [Option.bind_eq_some_iff] at h; done) | (split at h <;> first | (cases h; done) | (simp [Option.bind_eq_some_iff] at h; done)))
    | (simp [Option.bind_eq_some_iff] at h; done)
theorem zn_lsw {df : Nat} {ps : List (Int × Nat)} : zNR (zm_lsw df ps) := by
  intro K c r h
  unfold zm_lsw at h
  split at h <;> cases h
theorem zn_no : zNR zm_no := by
  intro K c r h
  cases h
theorem zn_call {nx y k : Nat} {v : Bool} {ci : Nat} : zNR (zm_call nx y k v ci) := by
  intro K c r h
  unfold zm_call at h
  split at h
  · cases hk : K y (c.2.2.1.take k).reverse c.2.2.2 with
    | none =>
      rw [hk] at h
      cases h
    | some q =>
      rw [hk] at h
      obtain ⟨u, w⟩ := q
      cases u <;> cases v <;> cases h
  · cases h
/-- how a return stands in the code -/
def zRt (cc : ByteArray) (ret : Option FieldType) (pc : Nat) (f : zmI) : Prop := ∀ (K : zmK) (c : zmC) (r : zmR), c.1 = pc → f K c = some (.inr r) → r.2 = c.2.2.2 ∧
  ((∃ z, c.2.2.1 = [.inl z] ∧ r.1 = some (.inl z) ∧ decode cc pc = .ok (.ireturn, 1) ∧ ((ret = some .int) ∨ (ret = some .boolean ∧ (z = 0 ∨ z = 1)) ∨ (ret = some .char ∧ 0 ≤ z ∧ z < 65536) ∨ (ret = some .byte ∧ z = 0))) ∨
   (∃ z, c.2.2.1 = [.inr (.inl z)] ∧ r.1 = some (.inr (.inl z)) ∧ decode cc pc = .ok (.lreturn, 1) ∧ ret = some .long) ∨
   (c.2.2.1 = [] ∧ r.1 = none ∧ decode cc pc = .ok (.return_, 1) ∧ ret = none))
/-- an instruction of a method, sound -/
def zOk (l : Launch) (own : String) (cc : ByteArray) (nL : Nat) (ini : Bool) (ret : Option FieldType) (pc : Nat) (f : zmI) : Prop := zSnd l own cc nL ini pc f ∧ zRt cc ret pc f
theorem zRt_of {cc : ByteArray} {ret : Option FieldType} {pc : Nat} {f : zmI} (h : zNR f) : zRt cc ret pc f := fun K c r _ hf => absurd hf (h K c r)
theorem zOk_fl {l : Launch} {own : String} {cc : ByteArray} {nL : Nat} {ini : Bool} {ret : Option FieldType} {pc : Nat} {f : zmI} (h2 : zNR f) (h : zFl l own cc nL pc f) : zOk l own cc nL ini ret pc f := ⟨zSnd_fl h, zRt_of h2⟩
theorem zOk_sn {l : Launch} {own : String} {cc : ByteArray} {nL : Nat} {ini : Bool} {ret : Option FieldType} {pc : Nat} {f : zmI} (h2 : zNR f) (h : zSnd l own cc nL ini pc f) : zOk l own cc nL ini ret pc f := ⟨h, zRt_of h2⟩
section ZR
variable {l : Launch} {own : String} {cc : ByteArray} {nL pc : Nat} {ini : Bool} {ret : Option FieldType}
theorem zSnd_ret {f : zmI} (h : ∀ (K : zmK) (c c' : zmC), f K c ≠ some (.inl c')) : zSnd l own cc nL ini pc f := fun d K hK c c' hpc hf => absurd hf (h K c c')
theorem zs_iret (hd : decode cc pc = .ok (.ireturn, 1)) (hr : ret = some .int) : zOk l own cc nL ini ret pc zm_iret := by
  refine ⟨zSnd_ret fun K c c' h => ?_, fun K c r hpc h => ?_⟩
  · unfold zm_iret at h
    split at h <;> cases h
  · unfold zm_iret at h
    split at h
    · rename_i z heq
      cases h
      exact ⟨rfl, Or.inl ⟨z, heq, rfl, hd, Or.inl hr⟩⟩
    · cases h
theorem zs_zret (hd : decode cc pc = .ok (.ireturn, 1)) (hr : ret = some .boolean) : zOk l own cc nL ini ret pc zm_zret := by
  refine ⟨zSnd_ret fun K c c' h => ?_, fun K c r hpc h => ?_⟩
  · unfold zm_zret at h
    split at h
    · split at h <;> cases h
    · cases h
  · unfold zm_zret at h
    split at h
    · rename_i z heq
      split at h
      · rename_i hz
        cases h
        exact ⟨rfl, Or.inl ⟨z, heq, rfl, hd, Or.inr (Or.inl ⟨hr, hz⟩)⟩⟩
      · cases h
    · cases h
theorem zs_cret (hd : decode cc pc = .ok (.ireturn, 1)) (hr : ret = some .char) : zOk l own cc nL ini ret pc zm_cret := by
  refine ⟨zSnd_ret fun K c c' h => ?_, fun K c r hpc h => ?_⟩
  · unfold zm_cret at h
    split at h
    · split at h <;> cases h
    · cases h
  · unfold zm_cret at h
    split at h
    · rename_i z heq
      split at h
      · rename_i hz
        cases h
        exact ⟨rfl, Or.inl ⟨z, heq, rfl, hd, Or.inr (Or.inr (Or.inl ⟨hr, hz.1, hz.2⟩))⟩⟩
      · cases h
    · cases h
theorem zs_bret (hd : decode cc pc = .ok (.ireturn, 1)) (hr : ret = some .byte) : zOk l own cc nL ini ret pc zm_bret := by
  refine ⟨zSnd_ret fun K c c' h => ?_, fun K c r hpc h => ?_⟩
  · unfold zm_bret at h
    split at h
    · split at h <;> cases h
    · cases h
  · unfold zm_bret at h
    split at h
    · rename_i z heq
      split at h
      · rename_i hz
        cases h
        exact ⟨rfl, Or.inl ⟨z, heq, rfl, hd, Or.inr (Or.inr (Or.inr ⟨hr, hz⟩))⟩⟩
      · cases h
    · cases h
theorem zs_lret (hd : decode cc pc = .ok (.lreturn, 1)) (hr : ret = some .long) : zOk l own cc nL ini ret pc zm_lret := by
  refine ⟨zSnd_ret fun K c c' h => ?_, fun K c r hpc h => ?_⟩
  · unfold zm_lret at h
    split at h <;> cases h
  · unfold zm_lret at h
    split at h
    · rename_i z heq
      cases h
      exact ⟨rfl, Or.inr (Or.inl ⟨z, heq, rfl, hd, hr⟩)⟩
    · cases h
theorem zs_vret (hd : decode cc pc = .ok (.return_, 1)) (hr : ret = none) : zOk l own cc nL ini ret pc zm_vret := by
  refine ⟨zSnd_ret fun K c c' h => ?_, fun K c r hpc h => ?_⟩
  · unfold zm_vret at h
    split at h <;> cases h
  · unfold zm_vret at h
    split at h
    · rename_i heq
      cases h
      exact ⟨rfl, Or.inr (Or.inr ⟨heq, rfl, hd, hr⟩)⟩
    · cases h
end ZR
theorem zchar_nar {x : Int32} (h0 : 0 ≤ x.toInt) (h1 : x.toInt < 65536) : narrow .char (.int x) = .int x := by
  have e := lg_i2c_word h0 h1
  have h := pk_nc x
  rw [e] at h
  exact h
/-- the walk: a run of the small machine is one of the large one's -/
theorem zwalk {l : Launch} {own : String} {cc : ByteArray} {nL : Nat} {ini : Bool} {ret : Option FieldType} {code : Nat → zmI} (hcode : ∀ pc, zOk l own cc nL ini ret pc (code pc)) {d : Nat} {K : zmK} (hK : zKO l d K) :
    ∀ (n : Nat) (c : zmC) (r : zmR), zm_run K code n c = some r → (c.2.2.2.1 ≤ r.2.1 ∧ c.2.2.2.2.1 ≤ r.2.2.1) ∧
    ∀ (p : Program) (e : Env) (R : Room) (s : State) (m : MethodId) (args : Array Value) (below : List Frame) (meth : Method) (co : Code) (Q : State → Prop) (base : Nat) (ext : Nat → Nat) (D : va_G) (cA : Nat → ClassId) (L : Nat) (xs : Nat → Int32) (n0 s0 : Nat), zCx p R s m args co own cc nL base ext D cA L xs d → (ini = true → meth.name = "<init>") → n0 ≤ c.2.2.2.1 → s0 ≤ c.2.2.2.2.1 → r.2.1 - n0 ≤ R.cells → r.2.2.1 - s0 ≤ R.slots →
      (∀ c1 : zmC, code c1.1 K c1 = some (.inr r) → zAt p l e R s m args below meth co nL Q base ext D cA L xs n0 s0 c1) → zAt p l e R s m args below meth co nL Q base ext D cA L xs n0 s0 c := by
  intro n
  induction n with
  | zero =>
    intro c r h
    cases h
  | succ n ih =>
    intro c r h
    unfold zm_run at h
    split at h
    · cases h
    · rename_i c' hc
      obtain ⟨⟨g1, g2⟩, g3⟩ := ih c' r h
      obtain ⟨⟨q1, q2⟩, q3⟩ := (hcode c.1).1 d K hK c c' rfl hc
      refine ⟨⟨Nat.le_trans q1 g1, Nat.le_trans q2 g2⟩, ?_⟩
      intro p e R s m args below meth co Q base ext D cA L xs n0 s0 X hin h1 h2 h3 h4 hret
      exact q3 p e R s m args below meth co Q base ext D cA L xs n0 s0 X hin h1 h2 (by omega) (by omega) (g3 p e R s m args below meth co Q base ext D cA L xs n0 s0 X hin (by omega) (by omega) h3 h4 hret)
    · rename_i r' hc
      cases h
      obtain ⟨q1, -⟩ := (hcode c.1).2 K c r rfl hc
      refine ⟨by rw [q1]; exact ⟨Nat.le_refl _, Nat.le_refl _⟩, ?_⟩
      intro p e R s m args below meth co Q base ext D cA L xs n0 s0 X hin h1 h2 h3 h4 hret
      exact hret c hc
/-- what is asked of a method of the table -/
def zMf (l : Launch) (code : Nat → zmI) (y : Nat) : Prop := plainFor (zMI y).1 = true ∧ ∃ ini : Bool, (ini = true → (zMI y).1.name = "<init>") ∧ ∀ pc, zOk l (zMI y).1.cls (zMI y).2.1 (zMI y).2.2.1 ini (zMI y).2.2.2 pc (code pc)
theorem zmeth_sound {l : Launch} {P : Nat → (Nat → zmI) × Nat} (hP : ∀ y, (P y).2 = (zMI y).2.2.1) (hM : ∀ y, zMf l (P y).1 y ∨ (P y).1 = (fun _ => zm_no) ∨ ∀ (d : Nat) (A : List zmV) (w : zmW) (r : Option zmV) (w' : zmW), zmD P (d + 1) y A w = some (r, w') → (w.1 ≤ w'.1 ∧ w.2.1 ≤ w'.2.1) ∧ zMt l (d + 1) y A w r w') : ∀ d, zKO l d (zmD P d) := by
  intro d
  induction d with
  | zero =>
    intro y A w r w' h
    cases h
  | succ d ih =>
    intro y A w r w' h
    have h00 := h
    unfold zmD at h
    split at h
    · rename_i hlen
      obtain ⟨n, hn⟩ := zmE_run h
      rcases hM y with hy | hy | hy
      · obtain ⟨hpl, ini, hini, hcode⟩ := hy
        obtain ⟨hm, hw⟩ := zwalk hcode ih n _ _ hn
        refine ⟨hm, ?_⟩
        intro base ext D cA L xs vs hvs
        refine va_MetF (cc := (zMI y).2.1) (maxL := (zMI y).2.2.1) (ret := (zMI y).2.2.2) hpl rfl ?_
        intro p e s m args below meth c s₁ B hml hv
        obtain ⟨rfl, hR, hKs⟩ := hv
        have hts := atoms_spec (ws := zcw y :: zG) B.pre
        have hlocks := B.notSynchronized
        have hx := B.exec
        have hb := B.bytes
        have hr := B.returns
        rw [lg_entry_eq]
        have hl0 := zRL_init hvs (n := (zMI y).2.2.1) (by rw [← hP y]; exact hlen)
        have hA := hw p e (zrm (d + 1) (w'.1 - w.1) (w'.2.1 - w.2.1)) s m vs.toArray below meth c (MQ below (zQm base ext D cA L xs r w') vs.toArray s (w'.1 - w.1) (w'.2.1 - w.2.1) (zA base)) base ext D cA L xs w.1 w.2.1
          ⟨hx, hb, hml, findClass_of_methodNamed B.named, fun w hw => hts w (List.mem_cons_of_mem _ hw), hKs, Nat.le_refl _, by show 64 * d + 64 ≤ 64 * (d + 1); omega⟩
          (fun hi => by rw [(name_of_methodNamed B.named B.method).1]; exact hini hi) (Nat.le_refl _) (Nat.le_refl _) (Nat.le_refl _) (Nat.le_refl _) ?_
        · have := hA s.heap [] _ [] hR va_S.rf (by rw [hP y]; exact hl0) trivial
          dsimp only at this
          rw [Nat.sub_self, Nat.sub_self] at this
          exact this
        · intro c1 hc1 H locs ls st hR1 hS1 hL1 hst1
          obtain ⟨q1, q2⟩ := (hcode c1.1).2 _ c1 _ rfl hc1
          dsimp only at q1 q2
          subst q1
          rcases q2 with ⟨z, e1, rfl, e3, e4⟩ | ⟨z, e1, rfl, e3, e4⟩ | ⟨e1, rfl, e3, e4⟩
          · rw [e1] at hst1
            obtain ⟨x, k1, rfl, rfl, hst2⟩ := zRS_int hst1
            obtain rfl := zRS_nil hst2
            have hq : ∀ t : State, t.heap = H → s.WarmedH t.vm → zQm base ext D cA L xs (some (.inl x.toInt)) c1.2.2.2 vs.toArray s (.returned (some (.int x))) t := fun t ht hW => ⟨⟨some (.int x), ⟨x, rfl, rfl⟩, rfl⟩, by rw [ht]; exact hR1, hS1.F ht⟩
            rcases e4 with e4 | ⟨e4, h01⟩ | ⟨e4, hc0, hc1⟩ | ⟨e4, h0⟩
            · exact W.iret hx hb (hr.trans e4) hq hS1.2.2 e3
            · refine W.zret hx hb (hr.trans e4) ?_ hq hS1.2.2 e3
              have hx01 : x = 0 ∨ x = 1 := by
                rcases h01 with q | q
                · left
                  exact zi_eq.mpr (by rw [q]; rfl)
                · right
                  exact zi_eq.mpr (by rw [q]; rfl)
              rcases hx01 with rfl | rfl <;> rfl
            · exact W.zret hx hb (hr.trans e4) (zchar_nar hc0 hc1) hq hS1.2.2 e3
            · have hx0 : x = 0 := zi_eq.mpr (by rw [h0]; rfl)
              exact W.zret hx hb (hr.trans e4) (by rw [hx0]; rfl) hq hS1.2.2 e3
          · rw [e1] at hst1
            obtain ⟨x, k1, rfl, rfl, hst2⟩ := zRS_long hst1
            obtain rfl := zRS_nil hst2
            exact W.lret hx hb (hr.trans e4) (fun t ht hW => ⟨⟨some (.long x), ⟨x, rfl, rfl⟩, rfl⟩, by rw [ht]; exact hR1, hS1.F ht⟩) hS1.2.2 e3
          · rw [e1] at hst1
            obtain rfl := zRS_nil hst1
            exact W.vret hx hb (hr.trans e4) (fun t ht hW => ⟨⟨none, trivial, rfl⟩, by rw [ht]; exact hR1, hS1.F ht⟩) hS1.2.2 e3
      · rw [hy] at hn
        cases n <;> cases hn
      · exact hy d A w r w' h00
    · cases h
/-! code tables -/
def zget : List (Nat × zmI) → Nat → zmI
  | [], _ => zm_no
  | (k, f) :: l, pc => bif Nat.beq pc k then f else zget l pc
def zgetC (chs : List (List (Nat × zmI))) (pc : Nat) : zmI := zget (chs.getD (pc / 32) []) pc
def zAll (l : Launch) (own : String) (cc : ByteArray) (nL : Nat) (ini : Bool) (ret : Option FieldType) : List (Nat × zmI) → Prop
  | [] => True
  | e :: t => zOk l own cc nL ini ret e.1 e.2 ∧ zAll l own cc nL ini ret t
theorem zA_c {l : Launch} {own : String} {cc : ByteArray} {nL : Nat} {ini : Bool} {ret : Option FieldType} {pc : Nat} {f : zmI} {t : List (Nat × zmI)} (h : zOk l own cc nL ini ret pc f) (h2 : zAll l own cc nL ini ret t) : zAll l own cc nL ini ret ((pc, f) :: t) := ⟨h, h2⟩
theorem zA_n {l : Launch} {own : String} {cc : ByteArray} {nL : Nat} {ini : Bool} {ret : Option FieldType} : zAll l own cc nL ini ret [] := trivial
theorem zOk_no {l : Launch} {own : String} {cc : ByteArray} {nL : Nat} {ini : Bool} {ret : Option FieldType} {pc : Nat} : zOk l own cc nL ini ret pc zm_no := ⟨zs_no, zRt_of zn_no⟩
theorem zget_ok {l : Launch} {own : String} {cc : ByteArray} {nL : Nat} {ini : Bool} {ret : Option FieldType} : ∀ (t : List (Nat × zmI)), zAll l own cc nL ini ret t → ∀ pc, zOk l own cc nL ini ret pc (zget t pc)
  | [], _, pc => zOk_no
  | (k, f) :: t, h, pc => by
    unfold zget
    cases hk : Nat.beq pc k with
    | true =>
      have := Nat.eq_of_beq_eq_true hk
      subst this
      exact h.1
    | false => exact zget_ok t h.2 pc
def zAll2 (l : Launch) (own : String) (cc : ByteArray) (nL : Nat) (ini : Bool) (ret : Option FieldType) : List (List (Nat × zmI)) → Prop
  | [] => True
  | e :: t => zAll l own cc nL ini ret e ∧ zAll2 l own cc nL ini ret t
theorem zA2_c {l : Launch} {own : String} {cc : ByteArray} {nL : Nat} {ini : Bool} {ret : Option FieldType} {e : List (Nat × zmI)} {t : List (List (Nat × zmI))} (h : zAll l own cc nL ini ret e) (h2 : zAll2 l own cc nL ini ret t) : zAll2 l own cc nL ini ret (e :: t) := ⟨h, h2⟩
theorem zA2_n {l : Launch} {own : String} {cc : ByteArray} {nL : Nat} {ini : Bool} {ret : Option FieldType} : zAll2 l own cc nL ini ret [] := trivial
theorem zgetC_ok {l : Launch} {own : String} {cc : ByteArray} {nL : Nat} {ini : Bool} {ret : Option FieldType} {chs : List (List (Nat × zmI))} (h : zAll2 l own cc nL ini ret chs) (pc : Nat) : zOk l own cc nL ini ret pc (zgetC chs pc) := by
  have key : ∀ (chs : List (List (Nat × zmI))) (i : Nat), zAll2 l own cc nL ini ret chs → zAll l own cc nL ini ret (chs.getD i []) := by
    intro chs
    induction chs with
    | nil => intro i _; simp [zAll]
    | cons e t ih =>
      intro i h
      cases i with
      | zero => exact h.1
      | succ i => exact ih i h.2
  exact zget_ok _ (key chs _ h) pc
/-! what a call asks of its method, together -/
def zBC (y n : Nat) : Prop := (parseMethodDescriptor (zMI y).1.desc).map (fun d => d.parameters.length) = some n ∧ (zMI y).2.2.1 ≤ 40 ∧ ((zMI y).1.cls ≠ "java/lang/invoke/MethodHandle" ∧ (zMI y).1.cls ≠ "java/lang/invoke/VarHandle") ∧ zcw y ∈ zG ∧ Cond.initialized (zMI y).1.cls ∈ zG
def zBS (y n : Nat) : Prop := zBC y n ∧ Cond.static (zMI y).1 ∈ zG
def zBV (y n ci : Nat) : Prop := zBC y n ∧ Cond.instanceMethod (zMI y).1 ∈ zG ∧ Cond.selects (zMI y).1.cls (zMI y).1 (zMI y).1 ∈ zG ∧ ci < 13 ∧ (zMI y).1.cls = zC ci
def zBX (y n : Nat) : Prop := zBC y n ∧ Cond.instanceMethod (zMI y).1 ∈ zG ∧ Cond.selects (zMI y).1.cls (zMI y).1 (zMI y).1 ∈ zG ∧ (zMI y).1.cls = "java/lang/String"
def zBI (y n ci : Nat) : Prop := zBC y n ∧ Cond.instanceMethod (zMI y).1 ∈ zG ∧ ci < 13 ∧ (zMI y).1.name = "<init>" ∧ (zMI y).2.2.2 = none
section ZK
variable {l : Launch} {own : String} {cc : ByteArray} {nL pc : Nat} {ini : Bool} {ret : Option FieldType}
theorem zk_S {ix y n : Nat} {v : Bool} (h : zBS y n) (hl : Cond.methodLink own ix (zMI y).1 ∈ zG) (hd : decode cc pc = .ok (.invokestatic ix, 3)) : zOk l own cc nL ini ret pc (zm_call (pc + 3) y n v 99) := zOk_sn zn_call (zs_callS h.1.1 h.1.2.1 h.1.2.2.1 h.1.2.2.2.1 h.2 h.1.2.2.2.2 hl hd)
theorem zk_V {ix y n ci n1 : Nat} {v : Bool} (h : zBV y n ci) (hl : Cond.methodLink own ix (zMI y).1 ∈ zG) (hn1 : n1 = n + 1) (hd : decode cc pc = .ok (.invokevirtual ix, 3)) : zOk l own cc nL ini ret pc (zm_call (pc + 3) y n1 v ci) := zOk_sn zn_call (zs_callV h.2.2.2.1 h.2.2.2.2 h.1.1 h.1.2.1 h.1.2.2.1 h.1.2.2.2.1 h.2.1 h.2.2.1 h.1.2.2.2.2 hl hn1 hd)
theorem zk_X {ix y n n1 : Nat} {v : Bool} (h : zBX y n) (hl : Cond.methodLink own ix (zMI y).1 ∈ zG) (hn1 : n1 = n + 1) (hd : decode cc pc = .ok (.invokevirtual ix, 3)) : zOk l own cc nL ini ret pc (zm_call (pc + 3) y n1 v 60) := zOk_sn zn_call (zs_callX h.2.2.2 h.1.1 h.1.2.1 h.1.2.2.1 h.1.2.2.2.1 h.2.1 h.2.2.1 h.1.2.2.2.2 hl hn1 hd)
theorem zk_I {ix y n ci n1 : Nat} {v : Bool} (h : zBI y n ci) (hl : Cond.methodLink own ix (zMI y).1 ∈ zG) (hn1 : n1 = n + 1) (hd : decode cc pc = .ok (.invokespecial ix, 3)) : zOk l own cc nL ini ret pc (zm_call (pc + 3) y n1 v ci) := zOk_sn zn_call (zs_callI h.2.2.1 h.2.2.2.1 h.2.2.2.2 h.1.1 h.1.2.1 h.1.2.2.1 h.1.2.2.2.1 h.2.1 h.1.2.2.2.2 hl hn1 hd)
end ZK
