def LZ (Z : Zt) (a len : Nat) : Prop := zk Z a = 3 ∧ zf Z a 0 = some (a + 1) ∧ zk Z (a + 1) = 11 ∧ zl Z (a + 1) = len
def SZ0 (Z : Zt) (a : Nat) : Prop := zk Z a = 7 ∧ zf Z a 0 = some (a + 1) ∧ zk Z (a + 1) = 12 ∧ zl Z (a + 1) = 4 ∧ zf Z a 1 = some (a + 2) ∧ zk Z (a + 2) = 12 ∧ zl Z (a + 2) = 16 ∧ zf Z a 2 = some (a + 3) ∧ zk Z (a + 3) = 12 ∧ zl Z (a + 3) = 16 ∧ zf Z a 3 = some (a + 4) ∧ zk Z (a + 4) = 12 ∧ zl Z (a + 4) = 16 ∧ zf Z a 4 = some (a + 5) ∧ zk Z (a + 5) = 12 ∧ zl Z (a + 5) = 16 ∧ zf Z a 5 = some (a + 6)
theorem SZ0.k {Z : Zt} {a : Nat} (h : SZ0 Z a) : zk Z a = 7 := h.1
theorem SZ0.f0 {Z : Zt} {a : Nat} (h : SZ0 Z a) : zf Z a 0 = some (a + 1) := h.2.1
theorem SZ0.k0 {Z : Zt} {a : Nat} (h : SZ0 Z a) : zk Z (a + 1) = 12 := h.2.2.1
theorem SZ0.l0 {Z : Zt} {a : Nat} (h : SZ0 Z a) : zl Z (a + 1) = 4 := h.2.2.2.1
theorem SZ0.f1 {Z : Zt} {a : Nat} (h : SZ0 Z a) : zf Z a 1 = some (a + 2) := h.2.2.2.2.1
theorem SZ0.k1 {Z : Zt} {a : Nat} (h : SZ0 Z a) : zk Z (a + 2) = 12 := h.2.2.2.2.2.1
theorem SZ0.l1 {Z : Zt} {a : Nat} (h : SZ0 Z a) : zl Z (a + 2) = 16 := h.2.2.2.2.2.2.1
theorem SZ0.f2 {Z : Zt} {a : Nat} (h : SZ0 Z a) : zf Z a 2 = some (a + 3) := h.2.2.2.2.2.2.2.1
theorem SZ0.k2 {Z : Zt} {a : Nat} (h : SZ0 Z a) : zk Z (a + 3) = 12 := h.2.2.2.2.2.2.2.2.1
theorem SZ0.l2 {Z : Zt} {a : Nat} (h : SZ0 Z a) : zl Z (a + 3) = 16 := h.2.2.2.2.2.2.2.2.2.1
theorem SZ0.f3 {Z : Zt} {a : Nat} (h : SZ0 Z a) : zf Z a 3 = some (a + 4) := h.2.2.2.2.2.2.2.2.2.2.1
theorem SZ0.k3 {Z : Zt} {a : Nat} (h : SZ0 Z a) : zk Z (a + 4) = 12 := h.2.2.2.2.2.2.2.2.2.2.2.1
theorem SZ0.l3 {Z : Zt} {a : Nat} (h : SZ0 Z a) : zl Z (a + 4) = 16 := h.2.2.2.2.2.2.2.2.2.2.2.2.1
theorem SZ0.f4 {Z : Zt} {a : Nat} (h : SZ0 Z a) : zf Z a 4 = some (a + 5) := h.2.2.2.2.2.2.2.2.2.2.2.2.2.1
theorem SZ0.k4 {Z : Zt} {a : Nat} (h : SZ0 Z a) : zk Z (a + 5) = 12 := h.2.2.2.2.2.2.2.2.2.2.2.2.2.2.1
theorem SZ0.l4 {Z : Zt} {a : Nat} (h : SZ0 Z a) : zl Z (a + 5) = 16 := h.2.2.2.2.2.2.2.2.2.2.2.2.2.2.2.1
theorem SZ0.f5 {Z : Zt} {a : Nat} (h : SZ0 Z a) : zf Z a 5 = some (a + 6) := h.2.2.2.2.2.2.2.2.2.2.2.2.2.2.2.2
/-- a State with its line -/
def SZ (Z : Zt) (a : Nat) : Prop := SZ0 Z a ∧ LZ Z (a + 6) 60
def QZ (Z : Zt) (a : Nat) : Prop := zk Z a = 5 ∧ zf Z a 0 = some (a + 1) ∧ zk Z (a + 1) = 12 ∧ zl Z (a + 1) = 60 ∧ zf Z a 1 = some (a + 2) ∧ zk Z (a + 2) = 12 ∧ zl Z (a + 2) = 60 ∧ zf Z a 2 = some (a + 3) ∧ zk Z (a + 3) = 12 ∧ zl Z (a + 3) = 60 ∧ zf Z a 3 = some (a + 4) ∧ zk Z (a + 4) = 12 ∧ zl Z (a + 4) = 60 ∧ zf Z a 4 = some (a + 5) ∧ zk Z (a + 5) = 11 ∧ zl Z (a + 5) = 120
theorem QZ.k {Z : Zt} {a : Nat} (h : QZ Z a) : zk Z a = 5 := h.1
theorem QZ.f0 {Z : Zt} {a : Nat} (h : QZ Z a) : zf Z a 0 = some (a + 1) := h.2.1
theorem QZ.k0 {Z : Zt} {a : Nat} (h : QZ Z a) : zk Z (a + 1) = 12 := h.2.2.1
theorem QZ.l0 {Z : Zt} {a : Nat} (h : QZ Z a) : zl Z (a + 1) = 60 := h.2.2.2.1
theorem QZ.f1 {Z : Zt} {a : Nat} (h : QZ Z a) : zf Z a 1 = some (a + 2) := h.2.2.2.2.1
theorem QZ.k1 {Z : Zt} {a : Nat} (h : QZ Z a) : zk Z (a + 2) = 12 := h.2.2.2.2.2.1
theorem QZ.l1 {Z : Zt} {a : Nat} (h : QZ Z a) : zl Z (a + 2) = 60 := h.2.2.2.2.2.2.1
theorem QZ.f2 {Z : Zt} {a : Nat} (h : QZ Z a) : zf Z a 2 = some (a + 3) := h.2.2.2.2.2.2.2.1
theorem QZ.k2 {Z : Zt} {a : Nat} (h : QZ Z a) : zk Z (a + 3) = 12 := h.2.2.2.2.2.2.2.2.1
theorem QZ.l2 {Z : Zt} {a : Nat} (h : QZ Z a) : zl Z (a + 3) = 60 := h.2.2.2.2.2.2.2.2.2.1
theorem QZ.f3 {Z : Zt} {a : Nat} (h : QZ Z a) : zf Z a 3 = some (a + 4) := h.2.2.2.2.2.2.2.2.2.2.1
theorem QZ.k3 {Z : Zt} {a : Nat} (h : QZ Z a) : zk Z (a + 4) = 12 := h.2.2.2.2.2.2.2.2.2.2.2.1
theorem QZ.l3 {Z : Zt} {a : Nat} (h : QZ Z a) : zl Z (a + 4) = 60 := h.2.2.2.2.2.2.2.2.2.2.2.2.1
theorem QZ.f4 {Z : Zt} {a : Nat} (h : QZ Z a) : zf Z a 4 = some (a + 5) := h.2.2.2.2.2.2.2.2.2.2.2.2.2.1
theorem QZ.k4 {Z : Zt} {a : Nat} (h : QZ Z a) : zk Z (a + 5) = 11 := h.2.2.2.2.2.2.2.2.2.2.2.2.2.2.1
theorem QZ.l4 {Z : Zt} {a : Nat} (h : QZ Z a) : zl Z (a + 5) = 120 := h.2.2.2.2.2.2.2.2.2.2.2.2.2.2.2
def TZ (Z : Zt) (a : Nat) : Prop := zk Z a = 8 ∧ zf Z a 0 = some (a + 1) ∧ zk Z (a + 1) = 12 ∧ zl Z (a + 1) = 32 ∧ zf Z a 1 = some (a + 2) ∧ zk Z (a + 2) = 12 ∧ zl Z (a + 2) = 16 ∧ zf Z a 2 = some (a + 3) ∧ zk Z (a + 3) = 12 ∧ zl Z (a + 3) = 16
theorem TZ.k {Z : Zt} {a : Nat} (h : TZ Z a) : zk Z a = 8 := h.1
theorem TZ.f0 {Z : Zt} {a : Nat} (h : TZ Z a) : zf Z a 0 = some (a + 1) := h.2.1
theorem TZ.k0 {Z : Zt} {a : Nat} (h : TZ Z a) : zk Z (a + 1) = 12 := h.2.2.1
theorem TZ.l0 {Z : Zt} {a : Nat} (h : TZ Z a) : zl Z (a + 1) = 32 := h.2.2.2.1
theorem TZ.f1 {Z : Zt} {a : Nat} (h : TZ Z a) : zf Z a 1 = some (a + 2) := h.2.2.2.2.1
theorem TZ.k1 {Z : Zt} {a : Nat} (h : TZ Z a) : zk Z (a + 2) = 12 := h.2.2.2.2.2.1
theorem TZ.l1 {Z : Zt} {a : Nat} (h : TZ Z a) : zl Z (a + 2) = 16 := h.2.2.2.2.2.2.1
theorem TZ.f2 {Z : Zt} {a : Nat} (h : TZ Z a) : zf Z a 2 = some (a + 3) := h.2.2.2.2.2.2.2.1
theorem TZ.k2 {Z : Zt} {a : Nat} (h : TZ Z a) : zk Z (a + 3) = 12 := h.2.2.2.2.2.2.2.2.1
theorem TZ.l2 {Z : Zt} {a : Nat} (h : TZ Z a) : zl Z (a + 3) = 16 := h.2.2.2.2.2.2.2.2.2
def RZ0 (Z : Zt) (a : Nat) : Prop := zk Z a = 6 ∧ zf Z a 0 = some (a + 1) ∧ zk Z (a + 1) = 12 ∧ zl Z (a + 1) = 32 ∧ zf Z a 1 = some (a + 2) ∧ zk Z (a + 2) = 15 ∧ zl Z (a + 2) = 32
theorem RZ0.k {Z : Zt} {a : Nat} (h : RZ0 Z a) : zk Z a = 6 := h.1
theorem RZ0.f0 {Z : Zt} {a : Nat} (h : RZ0 Z a) : zf Z a 0 = some (a + 1) := h.2.1
theorem RZ0.k0 {Z : Zt} {a : Nat} (h : RZ0 Z a) : zk Z (a + 1) = 12 := h.2.2.1
theorem RZ0.l0 {Z : Zt} {a : Nat} (h : RZ0 Z a) : zl Z (a + 1) = 32 := h.2.2.2.1
theorem RZ0.f1 {Z : Zt} {a : Nat} (h : RZ0 Z a) : zf Z a 1 = some (a + 2) := h.2.2.2.2.1
theorem RZ0.k1 {Z : Zt} {a : Nat} (h : RZ0 Z a) : zk Z (a + 2) = 15 := h.2.2.2.2.2.1
theorem RZ0.l1 {Z : Zt} {a : Nat} (h : RZ0 Z a) : zl Z (a + 2) = 32 := h.2.2.2.2.2.2
/-- a Relation with its Polynomials -/
def RZ (Z : Zt) (a : Nat) : Prop := RZ0 Z a ∧ ∀ i, i < 32 → PZ Z (a + 3 + 3 * i)
def HZ0 (Z : Zt) (a : Nat) : Prop := zk Z a = 2 ∧ zf Z a 0 = some (a + 1) ∧ zk Z (a + 1) = 17 ∧ zl Z (a + 1) = 4
theorem HZ0.k {Z : Zt} {a : Nat} (h : HZ0 Z a) : zk Z a = 2 := h.1
theorem HZ0.f0 {Z : Zt} {a : Nat} (h : HZ0 Z a) : zf Z a 0 = some (a + 1) := h.2.1
theorem HZ0.k0 {Z : Zt} {a : Nat} (h : HZ0 Z a) : zk Z (a + 1) = 17 := h.2.2.1
theorem HZ0.l0 {Z : Zt} {a : Nat} (h : HZ0 Z a) : zl Z (a + 1) = 4 := h.2.2.2
/-- the History with its States -/
def HZ (Z : Zt) (a : Nat) : Prop := HZ0 Z a ∧ ∀ i, i < 4 → SZ Z (a + 2 + 8 * i)
def EZ0 (Z : Zt) (a : Nat) : Prop := zk Z a = 1 ∧ zf Z a 0 = some (a + 1) ∧ zk Z (a + 1) = 16 ∧ zl Z (a + 1) = 12
theorem EZ0.k {Z : Zt} {a : Nat} (h : EZ0 Z a) : zk Z a = 1 := h.1
theorem EZ0.f0 {Z : Zt} {a : Nat} (h : EZ0 Z a) : zf Z a 0 = some (a + 1) := h.2.1
theorem EZ0.k0 {Z : Zt} {a : Nat} (h : EZ0 Z a) : zk Z (a + 1) = 16 := h.2.2.1
theorem EZ0.l0 {Z : Zt} {a : Nat} (h : EZ0 Z a) : zl Z (a + 1) = 12 := h.2.2.2
def EZ (Z : Zt) (a : Nat) : Prop := EZ0 Z a ∧ ∀ i, i < 14 → RZ Z (a + 2 + 99 * i)
