def MZ (Z : Zt) (a : Nat) : Prop := zk Z a = 10 ∧ zf Z a 0 = some (a + 1) ∧ zk Z (a + 1) = 12 ∧ zl Z (a + 1) = 145 ∧ zf Z a 1 = some (a + 2) ∧ zk Z (a + 2) = 12 ∧ zl Z (a + 2) = 580 ∧ zf Z a 3 = some (a + 3) ∧ zk Z (a + 3) = 12 ∧ zl Z (a + 3) = 60 ∧ zf Z a 5 = some (a + 4) ∧ zk Z (a + 4) = 12 ∧ zl Z (a + 4) = 60 ∧ zf Z a 9 = some (a + 5) ∧ zk Z (a + 5) = 12 ∧ zl Z (a + 5) = 60 ∧ zf Z a 10 = some (a + 6) ∧ zk Z (a + 6) = 12 ∧ zl Z (a + 6) = 60 ∧ zf Z a 11 = some (a + 7) ∧ zk Z (a + 7) = 12 ∧ zl Z (a + 7) = 60 ∧ zf Z a 13 = some (a + 8) ∧ zk Z (a + 8) = 12 ∧ zl Z (a + 8) = 60 ∧ zf Z a 14 = some (a + 9) ∧ zk Z (a + 9) = 12 ∧ zl Z (a + 9) = 60 ∧ zf Z a 15 = some (a + 10) ∧ zk Z (a + 10) = 12 ∧ zl Z (a + 10) = 60 ∧ zf Z a 16 = some (a + 11) ∧ zk Z (a + 11) = 12 ∧ zl Z (a + 11) = 60 ∧ zf Z a 18 = some (a + 12) ∧ zk Z (a + 12) = 12 ∧ zl Z (a + 12) = 14 ∧ zf Z a 19 = some (a + 13) ∧ zk Z (a + 13) = 12 ∧ zl Z (a + 13) = 14 ∧ zf Z a 20 = some (a + 14) ∧ zk Z (a + 14) = 12 ∧ zl Z (a + 14) = 448 ∧ zf Z a 21 = some (a + 15) ∧ zk Z (a + 15) = 12 ∧ zl Z (a + 15) = 448 ∧ zf Z a 22 = some (a + 16) ∧ zk Z (a + 16) = 13 ∧ zl Z (a + 16) = 14336 ∧ zf Z a 23 = some (a + 17) ∧ zk Z (a + 17) = 13 ∧ zl Z (a + 17) = 14336 ∧ zf Z a 27 = some (a + 18) ∧ zk Z (a + 18) = 14 ∧ zl Z (a + 18) = 32 ∧ zf Z a 28 = some (a + 19) ∧ zk Z (a + 19) = 12 ∧ zl Z (a + 19) = 32 ∧ zf Z a 30 = some (a + 20) ∧ zk Z (a + 20) = 12 ∧ zl Z (a + 20) = 3000
theorem MZ.k {Z : Zt} {a : Nat} (h : MZ Z a) : zk Z a = 10 := h.1
theorem MZ.f0 {Z : Zt} {a : Nat} (h : MZ Z a) : zf Z a 0 = some (a + 1) := h.2.1
theorem MZ.k0 {Z : Zt} {a : Nat} (h : MZ Z a) : zk Z (a + 1) = 12 := h.2.2.1
theorem MZ.l0 {Z : Zt} {a : Nat} (h : MZ Z a) : zl Z (a + 1) = 145 := h.2.2.2.1
theorem MZ.f1 {Z : Zt} {a : Nat} (h : MZ Z a) : zf Z a 1 = some (a + 2) := h.2.2.2.2.1
theorem MZ.k1 {Z : Zt} {a : Nat} (h : MZ Z a) : zk Z (a + 2) = 12 := h.2.2.2.2.2.1
theorem MZ.l1 {Z : Zt} {a : Nat} (h : MZ Z a) : zl Z (a + 2) = 580 := h.2.2.2.2.2.2.1
theorem MZ.f3 {Z : Zt} {a : Nat} (h : MZ Z a) : zf Z a 3 = some (a + 3) := h.2.2.2.2.2.2.2.1
theorem MZ.k3 {Z : Zt} {a : Nat} (h : MZ Z a) : zk Z (a + 3) = 12 := h.2.2.2.2.2.2.2.2.1
theorem MZ.l3 {Z : Zt} {a : Nat} (h : MZ Z a) : zl Z (a + 3) = 60 := h.2.2.2.2.2.2.2.2.2.1
theorem MZ.f5 {Z : Zt} {a : Nat} (h : MZ Z a) : zf Z a 5 = some (a + 4) := h.2.2.2.2.2.2.2.2.2.2.1
theorem MZ.k5 {Z : Zt} {a : Nat} (h : MZ Z a) : zk Z (a + 4) = 12 := h.2.2.2.2.2.2.2.2.2.2.2.1
theorem MZ.l5 {Z : Zt} {a : Nat} (h : MZ Z a) : zl Z (a + 4) = 60 := h.2.2.2.2.2.2.2.2.2.2.2.2.1
theorem MZ.f9 {Z : Zt} {a : Nat} (h : MZ Z a) : zf Z a 9 = some (a + 5) := h.2.2.2.2.2.2.2.2.2.2.2.2.2.1
theorem MZ.k9 {Z : Zt} {a : Nat} (h : MZ Z a) : zk Z (a + 5) = 12 := h.2.2.2.2.2.2.2.2.2.2.2.2.2.2.1
theorem MZ.l9 {Z : Zt} {a : Nat} (h : MZ Z a) : zl Z (a + 5) = 60 := h.2.2.2.2.2.2.2.2.2.2.2.2.2.2.2.1
theorem MZ.f10 {Z : Zt} {a : Nat} (h : MZ Z a) : zf Z a 10 = some (a + 6) := h.2.2.2.2.2.2.2.2.2.2.2.2.2.2.2.2.1
theorem MZ.k10 {Z : Zt} {a : Nat} (h : MZ Z a) : zk Z (a + 6) = 12 := h.2.2.2.2.2.2.2.2.2.2.2.2.2.2.2.2.2.1
theorem MZ.l10 {Z : Zt} {a : Nat} (h : MZ Z a) : zl Z (a + 6) = 60 := h.2.2.2.2.2.2.2.2.2.2.2.2.2.2.2.2.2.2.1
theorem MZ.f11 {Z : Zt} {a : Nat} (h : MZ Z a) : zf Z a 11 = some (a + 7) := h.2.2.2.2.2.2.2.2.2.2.2.2.2.2.2.2.2.2.2.1
theorem MZ.k11 {Z : Zt} {a : Nat} (h : MZ Z a) : zk Z (a + 7) = 12 := h.2.2.2.2.2.2.2.2.2.2.2.2.2.2.2.2.2.2.2.2.1
theorem MZ.l11 {Z : Zt} {a : Nat} (h : MZ Z a) : zl Z (a + 7) = 60 := h.2.2.2.2.2.2.2.2.2.2.2.2.2.2.2.2.2.2.2.2.2.1
theorem MZ.f13 {Z : Zt} {a : Nat} (h : MZ Z a) : zf Z a 13 = some (a + 8) := h.2.2.2.2.2.2.2.2.2.2.2.2.2.2.2.2.2.2.2.2.2.2.1
theorem MZ.k13 {Z : Zt} {a : Nat} (h : MZ Z a) : zk Z (a + 8) = 12 := h.2.2.2.2.2.2.2.2.2.2.2.2.2.2.2.2.2.2.2.2.2.2.2.1
theorem MZ.l13 {Z : Zt} {a : Nat} (h : MZ Z a) : zl Z (a + 8) = 60 := h.2.2.2.2.2.2.2.2.2.2.2.2.2.2.2.2.2.2.2.2.2.2.2.2.1
theorem MZ.f14 {Z : Zt} {a : Nat} (h : MZ Z a) : zf Z a 14 = some (a + 9) := h.2.2.2.2.2.2.2.2.2.2.2.2.2.2.2.2.2.2.2.2.2.2.2.2.2.1
theorem MZ.k14 {Z : Zt} {a : Nat} (h : MZ Z a) : zk Z (a + 9) = 12 := h.2.2.2.2.2.2.2.2.2.2.2.2.2.2.2.2.2.2.2.2.2.2.2.2.2.2.1
theorem MZ.l14 {Z : Zt} {a : Nat} (h : MZ Z a) : zl Z (a + 9) = 60 := h.2.2.2.2.2.2.2.2.2.2.2.2.2.2.2.2.2.2.2.2.2.2.2.2.2.2.2.1
theorem MZ.f15 {Z : Zt} {a : Nat} (h : MZ Z a) : zf Z a 15 = some (a + 10) := h.2.2.2.2.2.2.2.2.2.2.2.2.2.2.2.2.2.2.2.2.2.2.2.2.2.2.2.2.1
theorem MZ.k15 {Z : Zt} {a : Nat} (h : MZ Z a) : zk Z (a + 10) = 12 := h.2.2.2.2.2.2.2.2.2.2.2.2.2.2.2.2.2.2.2.2.2.2.2.2.2.2.2.2.2.1
theorem MZ.l15 {Z : Zt} {a : Nat} (h : MZ Z a) : zl Z (a + 10) = 60 := h.2.2.2.2.2.2.2.2.2.2.2.2.2.2.2.2.2.2.2.2.2.2.2.2.2.2.2.2.2.2.1
theorem MZ.f16 {Z : Zt} {a : Nat} (h : MZ Z a) : zf Z a 16 = some (a + 11) := h.2.2.2.2.2.2.2.2.2.2.2.2.2.2.2.2.2.2.2.2.2.2.2.2.2.2.2.2.2.2.2.1
theorem MZ.k16 {Z : Zt} {a : Nat} (h : MZ Z a) : zk Z (a + 11) = 12 := h.2.2.2.2.2.2.2.2.2.2.2.2.2.2.2.2.2.2.2.2.2.2.2.2.2.2.2.2.2.2.2.2.1
theorem MZ.l16 {Z : Zt} {a : Nat} (h : MZ Z a) : zl Z (a + 11) = 60 := h.2.2.2.2.2.2.2.2.2.2.2.2.2.2.2.2.2.2.2.2.2.2.2.2.2.2.2.2.2.2.2.2.2.1
theorem MZ.f18 {Z : Zt} {a : Nat} (h : MZ Z a) : zf Z a 18 = some (a + 12) := h.2.2.2.2.2.2.2.2.2.2.2.2.2.2.2.2.2.2.2.2.2.2.2.2.2.2.2.2.2.2.2.2.2.2.1
theorem MZ.k18 {Z : Zt} {a : Nat} (h : MZ Z a) : zk Z (a + 12) = 12 := h.2.2.2.2.2.2.2.2.2.2.2.2.2.2.2.2.2.2.2.2.2.2.2.2.2.2.2.2.2.2.2.2.2.2.2.1
theorem MZ.l18 {Z : Zt} {a : Nat} (h : MZ Z a) : zl Z (a + 12) = 14 := h.2.2.2.2.2.2.2.2.2.2.2.2.2.2.2.2.2.2.2.2.2.2.2.2.2.2.2.2.2.2.2.2.2.2.2.2.1
theorem MZ.f19 {Z : Zt} {a : Nat} (h : MZ Z a) : zf Z a 19 = some (a + 13) := h.2.2.2.2.2.2.2.2.2.2.2.2.2.2.2.2.2.2.2.2.2.2.2.2.2.2.2.2.2.2.2.2.2.2.2.2.2.1
theorem MZ.k19 {Z : Zt} {a : Nat} (h : MZ Z a) : zk Z (a + 13) = 12 := h.2.2.2.2.2.2.2.2.2.2.2.2.2.2.2.2.2.2.2.2.2.2.2.2.2.2.2.2.2.2.2.2.2.2.2.2.2.2.1
theorem MZ.l19 {Z : Zt} {a : Nat} (h : MZ Z a) : zl Z (a + 13) = 14 := h.2.2.2.2.2.2.2.2.2.2.2.2.2.2.2.2.2.2.2.2.2.2.2.2.2.2.2.2.2.2.2.2.2.2.2.2.2.2.2.1
theorem MZ.f20 {Z : Zt} {a : Nat} (h : MZ Z a) : zf Z a 20 = some (a + 14) := h.2.2.2.2.2.2.2.2.2.2.2.2.2.2.2.2.2.2.2.2.2.2.2.2.2.2.2.2.2.2.2.2.2.2.2.2.2.2.2.2.1
theorem MZ.k20 {Z : Zt} {a : Nat} (h : MZ Z a) : zk Z (a + 14) = 12 := h.2.2.2.2.2.2.2.2.2.2.2.2.2.2.2.2.2.2.2.2.2.2.2.2.2.2.2.2.2.2.2.2.2.2.2.2.2.2.2.2.2.1
theorem MZ.l20 {Z : Zt} {a : Nat} (h : MZ Z a) : zl Z (a + 14) = 448 := h.2.2.2.2.2.2.2.2.2.2.2.2.2.2.2.2.2.2.2.2.2.2.2.2.2.2.2.2.2.2.2.2.2.2.2.2.2.2.2.2.2.2.1
theorem MZ.f21 {Z : Zt} {a : Nat} (h : MZ Z a) : zf Z a 21 = some (a + 15) := h.2.2.2.2.2.2.2.2.2.2.2.2.2.2.2.2.2.2.2.2.2.2.2.2.2.2.2.2.2.2.2.2.2.2.2.2.2.2.2.2.2.2.2.1
theorem MZ.k21 {Z : Zt} {a : Nat} (h : MZ Z a) : zk Z (a + 15) = 12 := h.2.2.2.2.2.2.2.2.2.2.2.2.2.2.2.2.2.2.2.2.2.2.2.2.2.2.2.2.2.2.2.2.2.2.2.2.2.2.2.2.2.2.2.2.1
theorem MZ.l21 {Z : Zt} {a : Nat} (h : MZ Z a) : zl Z (a + 15) = 448 := h.2.2.2.2.2.2.2.2.2.2.2.2.2.2.2.2.2.2.2.2.2.2.2.2.2.2.2.2.2.2.2.2.2.2.2.2.2.2.2.2.2.2.2.2.2.1
theorem MZ.f22 {Z : Zt} {a : Nat} (h : MZ Z a) : zf Z a 22 = some (a + 16) := h.2.2.2.2.2.2.2.2.2.2.2.2.2.2.2.2.2.2.2.2.2.2.2.2.2.2.2.2.2.2.2.2.2.2.2.2.2.2.2.2.2.2.2.2.2.2.1
theorem MZ.k22 {Z : Zt} {a : Nat} (h : MZ Z a) : zk Z (a + 16) = 13 := h.2.2.2.2.2.2.2.2.2.2.2.2.2.2.2.2.2.2.2.2.2.2.2.2.2.2.2.2.2.2.2.2.2.2.2.2.2.2.2.2.2.2.2.2.2.2.2.1
theorem MZ.l22 {Z : Zt} {a : Nat} (h : MZ Z a) : zl Z (a + 16) = 14336 := h.2.2.2.2.2.2.2.2.2.2.2.2.2.2.2.2.2.2.2.2.2.2.2.2.2.2.2.2.2.2.2.2.2.2.2.2.2.2.2.2.2.2.2.2.2.2.2.2.1
theorem MZ.f23 {Z : Zt} {a : Nat} (h : MZ Z a) : zf Z a 23 = some (a + 17) := h.2.2.2.2.2.2.2.2.2.2.2.2.2.2.2.2.2.2.2.2.2.2.2.2.2.2.2.2.2.2.2.2.2.2.2.2.2.2.2.2.2.2.2.2.2.2.2.2.2.1
theorem MZ.k23 {Z : Zt} {a : Nat} (h : MZ Z a) : zk Z (a + 17) = 13 := h.2.2.2.2.2.2.2.2.2.2.2.2.2.2.2.2.2.2.2.2.2.2.2.2.2.2.2.2.2.2.2.2.2.2.2.2.2.2.2.2.2.2.2.2.2.2.2.2.2.2.1
theorem MZ.l23 {Z : Zt} {a : Nat} (h : MZ Z a) : zl Z (a + 17) = 14336 := h.2.2.2.2.2.2.2.2.2.2.2.2.2.2.2.2.2.2.2.2.2.2.2.2.2.2.2.2.2.2.2.2.2.2.2.2.2.2.2.2.2.2.2.2.2.2.2.2.2.2.2.1
theorem MZ.f27 {Z : Zt} {a : Nat} (h : MZ Z a) : zf Z a 27 = some (a + 18) := h.2.2.2.2.2.2.2.2.2.2.2.2.2.2.2.2.2.2.2.2.2.2.2.2.2.2.2.2.2.2.2.2.2.2.2.2.2.2.2.2.2.2.2.2.2.2.2.2.2.2.2.2.1
theorem MZ.k27 {Z : Zt} {a : Nat} (h : MZ Z a) : zk Z (a + 18) = 14 := h.2.2.2.2.2.2.2.2.2.2.2.2.2.2.2.2.2.2.2.2.2.2.2.2.2.2.2.2.2.2.2.2.2.2.2.2.2.2.2.2.2.2.2.2.2.2.2.2.2.2.2.2.2.1
theorem MZ.l27 {Z : Zt} {a : Nat} (h : MZ Z a) : zl Z (a + 18) = 32 := h.2.2.2.2.2.2.2.2.2.2.2.2.2.2.2.2.2.2.2.2.2.2.2.2.2.2.2.2.2.2.2.2.2.2.2.2.2.2.2.2.2.2.2.2.2.2.2.2.2.2.2.2.2.2.1
theorem MZ.f28 {Z : Zt} {a : Nat} (h : MZ Z a) : zf Z a 28 = some (a + 19) := h.2.2.2.2.2.2.2.2.2.2.2.2.2.2.2.2.2.2.2.2.2.2.2.2.2.2.2.2.2.2.2.2.2.2.2.2.2.2.2.2.2.2.2.2.2.2.2.2.2.2.2.2.2.2.2.1
theorem MZ.k28 {Z : Zt} {a : Nat} (h : MZ Z a) : zk Z (a + 19) = 12 := h.2.2.2.2.2.2.2.2.2.2.2.2.2.2.2.2.2.2.2.2.2.2.2.2.2.2.2.2.2.2.2.2.2.2.2.2.2.2.2.2.2.2.2.2.2.2.2.2.2.2.2.2.2.2.2.2.1
theorem MZ.l28 {Z : Zt} {a : Nat} (h : MZ Z a) : zl Z (a + 19) = 32 := h.2.2.2.2.2.2.2.2.2.2.2.2.2.2.2.2.2.2.2.2.2.2.2.2.2.2.2.2.2.2.2.2.2.2.2.2.2.2.2.2.2.2.2.2.2.2.2.2.2.2.2.2.2.2.2.2.2.1
theorem MZ.f30 {Z : Zt} {a : Nat} (h : MZ Z a) : zf Z a 30 = some (a + 20) := h.2.2.2.2.2.2.2.2.2.2.2.2.2.2.2.2.2.2.2.2.2.2.2.2.2.2.2.2.2.2.2.2.2.2.2.2.2.2.2.2.2.2.2.2.2.2.2.2.2.2.2.2.2.2.2.2.2.2.1
theorem MZ.k30 {Z : Zt} {a : Nat} (h : MZ Z a) : zk Z (a + 20) = 12 := h.2.2.2.2.2.2.2.2.2.2.2.2.2.2.2.2.2.2.2.2.2.2.2.2.2.2.2.2.2.2.2.2.2.2.2.2.2.2.2.2.2.2.2.2.2.2.2.2.2.2.2.2.2.2.2.2.2.2.2.1
theorem MZ.l30 {Z : Zt} {a : Nat} (h : MZ Z a) : zl Z (a + 20) = 3000 := h.2.2.2.2.2.2.2.2.2.2.2.2.2.2.2.2.2.2.2.2.2.2.2.2.2.2.2.2.2.2.2.2.2.2.2.2.2.2.2.2.2.2.2.2.2.2.2.2.2.2.2.2.2.2.2.2.2.2.2.2
def LZ (Z : Zt) (a len : Nat) : Prop := zk Z a = 3 ∧ zf Z a 0 = some (a + 1) ∧ zk Z (a + 1) = 11 ∧ zl Z (a + 1) = len
def SZ0 (Z : Zt) (a : Nat) : Prop := zk Z a = 7 ∧ zf Z a 0 = some (a + 1) ∧ zk Z (a + 1) = 12 ∧ zl Z (a + 1) = 4 ∧ zf Z a 1 = some (a + 2) ∧ zk Z (a + 2) = 12 ∧ zl Z (a + 2) = 16 ∧ zf Z a 2 = some (a + 3) ∧ zk Z (a + 3) = 12 ∧ zl Z (a + 3) = 16 ∧ zf Z a 3 = some (a + 4) ∧ zk Z (a + 4) = 12 ∧ zl Z (a + 4) = 16 ∧ zf Z a 4 = some (a + 5) ∧ zk Z (a + 5) = 12 ∧ zl Z (a + 5) = 16 ∧ zf Z a 5 = some (a + 6)
theorem SZ0.k {Z : Zt} {a : Nat} (h : SZ0 Z a) : zk Z a = 7 := h.1
theorem SZ0.f0 {Z : Zt} {a : Nat} (h : SZ0 Z a) : zf Z a 0 = some (a + 1) := h.2.1
theorem SZ0.k0 {Z : Zt} {a : Nat} (h : SZ0 Z a) : zk Z (a + 1) = 12 := h.2.2.1
theorem SZ0.l0 {Z : Zt} {a : Nat} (h : SZ0 Z a) : zl Z (a + 1) = 4 := h.2.2.2.1
theorem SZ0.f1 {Z : Zt} {a : Nat} (h : SZ0 Z a) : zf Z a 1 = some (a + 2) := h.2.2.2.2.1
theorem SZ0.k1 {Z : Zt} {a : Nat} (h : SZ0 Z a) : zk Z (a + 2) = 12 := h.2.2.2.2.2.1
theorem SZ0.l1 {Z : Zt} {a : Nat} (h : SZ0 Z a) : zl Z (a + 2) = 16 := h.2.2.2.2.2.2.1
theorem SZ0.f2 {Z : Zt} {a : Nat} (h : SZ0 Z a) : zf Z a 2 = some (a + 3) := h.2.2.2.2.2.2.2.1
theorem SZ0.k2 {Z : Zt} {a : Nat} (h : SZ0 Z a) : zk Z (a + 3) = 12 := h.2.2.2.2.2.2.2.2.1
theorem SZ0.l2 {Z : Zt} {a : Nat} (h : SZ0 Z a) : zl Z (a + 3) = 16 := h.2.2.2.2.2.2.2.2.2.1
theorem SZ0.f3 {Z : Zt} {a : Nat} (h : SZ0 Z a) : zf Z a 3 = some (a + 4) := h.2.2.2.2.2.2.2.2.2.2.1
theorem SZ0.k3 {Z : Zt} {a : Nat} (h : SZ0 Z a) : zk Z (a + 4) = 12 := h.2.2.2.2.2.2.2.2.2.2.2.1
theorem SZ0.l3 {Z : Zt} {a : Nat} (h : SZ0 Z a) : zl Z (a + 4) = 16 := h.2.2.2.2.2.2.2.2.2.2.2.2.1
theorem SZ0.f4 {Z : Zt} {a : Nat} (h : SZ0 Z a) : zf Z a 4 = some (a + 5) := h.2.2.2.2.2.2.2.2.2.2.2.2.2.1
theorem SZ0.k4 {Z : Zt} {a : Nat} (h : SZ0 Z a) : zk Z (a + 5) = 12 := h.2.2.2.2.2.2.2.2.2.2.2.2.2.2.1
theorem SZ0.l4 {Z : Zt} {a : Nat} (h : SZ0 Z a) : zl Z (a + 5) = 16 := h.2.2.2.2.2.2.2.2.2.2.2.2.2.2.2.1
theorem SZ0.f5 {Z : Zt} {a : Nat} (h : SZ0 Z a) : zf Z a 5 = some (a + 6) := h.2.2.2.2.2.2.2.2.2.2.2.2.2.2.2.2
/-- a State with its line -/
def SZ (Z : Zt) (a : Nat) : Prop := SZ0 Z a ∧ LZ Z (a + 6) 60
def QZ (Z : Zt) (a : Nat) : Prop := zk Z a = 5 ∧ zf Z a 0 = some (a + 1) ∧ zk Z (a + 1) = 12 ∧ zl Z (a + 1) = 60 ∧ zf Z a 1 = some (a + 2) ∧ zk Z (a + 2) = 12 ∧ zl Z (a + 2) = 60 ∧ zf Z a 2 = some (a + 3) ∧ zk Z (a + 3) = 12 ∧ zl Z (a + 3) = 60 ∧ zf Z a 3 = some (a + 4) ∧ zk Z (a + 4) = 12 ∧ zl Z (a + 4) = 60 ∧ zf Z a 4 = some (a + 5) ∧ zk Z (a + 5) = 11 ∧ zl Z (a + 5) = 120
theorem QZ.k {Z : Zt} {a : Nat} (h : QZ Z a) : zk Z a = 5 := h.1
theorem QZ.f0 {Z : Zt} {a : Nat} (h : QZ Z a) : zf Z a 0 = some (a + 1) := h.2.1
theorem QZ.k0 {Z : Zt} {a : Nat} (h : QZ Z a) : zk Z (a + 1) = 12 := h.2.2.1
theorem QZ.l0 {Z : Zt} {a : Nat} (h : QZ Z a) : zl Z (a + 1) = 60 := h.2.2.2.1
theorem QZ.f1 {Z : Zt} {a : Nat} (h : QZ Z a) : zf Z a 1 = some (a + 2) := h.2.2.2.2.1
theorem QZ.k1 {Z : Zt} {a : Nat} (h : QZ Z a) : zk Z (a + 2) = 12 := h.2.2.2.2.2.1
theorem QZ.l1 {Z : Zt} {a : Nat} (h : QZ Z a) : zl Z (a + 2) = 60 := h.2.2.2.2.2.2.1
theorem QZ.f2 {Z : Zt} {a : Nat} (h : QZ Z a) : zf Z a 2 = some (a + 3) := h.2.2.2.2.2.2.2.1
theorem QZ.k2 {Z : Zt} {a : Nat} (h : QZ Z a) : zk Z (a + 3) = 12 := h.2.2.2.2.2.2.2.2.1
theorem QZ.l2 {Z : Zt} {a : Nat} (h : QZ Z a) : zl Z (a + 3) = 60 := h.2.2.2.2.2.2.2.2.2.1
theorem QZ.f3 {Z : Zt} {a : Nat} (h : QZ Z a) : zf Z a 3 = some (a + 4) := h.2.2.2.2.2.2.2.2.2.2.1
theorem QZ.k3 {Z : Zt} {a : Nat} (h : QZ Z a) : zk Z (a + 4) = 12 := h.2.2.2.2.2.2.2.2.2.2.2.1
theorem QZ.l3 {Z : Zt} {a : Nat} (h : QZ Z a) : zl Z (a + 4) = 60 := h.2.2.2.2.2.2.2.2.2.2.2.2.1
theorem QZ.f4 {Z : Zt} {a : Nat} (h : QZ Z a) : zf Z a 4 = some (a + 5) := h.2.2.2.2.2.2.2.2.2.2.2.2.2.1
theorem QZ.k4 {Z : Zt} {a : Nat} (h : QZ Z a) : zk Z (a + 5) = 11 := h.2.2.2.2.2.2.2.2.2.2.2.2.2.2.1
theorem QZ.l4 {Z : Zt} {a : Nat} (h : QZ Z a) : zl Z (a + 5) = 120 := h.2.2.2.2.2.2.2.2.2.2.2.2.2.2.2
def TZ (Z : Zt) (a : Nat) : Prop := zk Z a = 8 ∧ zf Z a 0 = some (a + 1) ∧ zk Z (a + 1) = 12 ∧ zl Z (a + 1) = 32 ∧ zf Z a 1 = some (a + 2) ∧ zk Z (a + 2) = 12 ∧ zl Z (a + 2) = 16 ∧ zf Z a 2 = some (a + 3) ∧ zk Z (a + 3) = 12 ∧ zl Z (a + 3) = 16
theorem TZ.k {Z : Zt} {a : Nat} (h : TZ Z a) : zk Z a = 8 := h.1
theorem TZ.f0 {Z : Zt} {a : Nat} (h : TZ Z a) : zf Z a 0 = some (a + 1) := h.2.1
theorem TZ.k0 {Z : Zt} {a : Nat} (h : TZ Z a) : zk Z (a + 1) = 12 := h.2.2.1
theorem TZ.l0 {Z : Zt} {a : Nat} (h : TZ Z a) : zl Z (a + 1) = 32 := h.2.2.2.1
theorem TZ.f1 {Z : Zt} {a : Nat} (h : TZ Z a) : zf Z a 1 = some (a + 2) := h.2.2.2.2.1
theorem TZ.k1 {Z : Zt} {a : Nat} (h : TZ Z a) : zk Z (a + 2) = 12 := h.2.2.2.2.2.1
theorem TZ.l1 {Z : Zt} {a : Nat} (h : TZ Z a) : zl Z (a + 2) = 16 := h.2.2.2.2.2.2.1
theorem TZ.f2 {Z : Zt} {a : Nat} (h : TZ Z a) : zf Z a 2 = some (a + 3) := h.2.2.2.2.2.2.2.1
theorem TZ.k2 {Z : Zt} {a : Nat} (h : TZ Z a) : zk Z (a + 3) = 12 := h.2.2.2.2.2.2.2.2.1
theorem TZ.l2 {Z : Zt} {a : Nat} (h : TZ Z a) : zl Z (a + 3) = 16 := h.2.2.2.2.2.2.2.2.2
def RZ0 (Z : Zt) (a : Nat) : Prop := zk Z a = 6 ∧ zf Z a 0 = some (a + 1) ∧ zk Z (a + 1) = 12 ∧ zl Z (a + 1) = 32 ∧ zf Z a 1 = some (a + 2) ∧ zk Z (a + 2) = 15 ∧ zl Z (a + 2) = 32
theorem RZ0.k {Z : Zt} {a : Nat} (h : RZ0 Z a) : zk Z a = 6 := h.1
theorem RZ0.f0 {Z : Zt} {a : Nat} (h : RZ0 Z a) : zf Z a 0 = some (a + 1) := h.2.1
theorem RZ0.k0 {Z : Zt} {a : Nat} (h : RZ0 Z a) : zk Z (a + 1) = 12 := h.2.2.1
theorem RZ0.l0 {Z : Zt} {a : Nat} (h : RZ0 Z a) : zl Z (a + 1) = 32 := h.2.2.2.1
theorem RZ0.f1 {Z : Zt} {a : Nat} (h : RZ0 Z a) : zf Z a 1 = some (a + 2) := h.2.2.2.2.1
theorem RZ0.k1 {Z : Zt} {a : Nat} (h : RZ0 Z a) : zk Z (a + 2) = 15 := h.2.2.2.2.2.1
theorem RZ0.l1 {Z : Zt} {a : Nat} (h : RZ0 Z a) : zl Z (a + 2) = 32 := h.2.2.2.2.2.2
/-- a Relation with its Polynomials -/
def RZ (Z : Zt) (a : Nat) : Prop := RZ0 Z a ∧ ∀ i, i < 32 → PZ Z (a + 3 + 3 * i)
def HZ0 (Z : Zt) (a : Nat) : Prop := zk Z a = 2 ∧ zf Z a 0 = some (a + 1) ∧ zk Z (a + 1) = 17 ∧ zl Z (a + 1) = 4
theorem HZ0.k {Z : Zt} {a : Nat} (h : HZ0 Z a) : zk Z a = 2 := h.1
theorem HZ0.f0 {Z : Zt} {a : Nat} (h : HZ0 Z a) : zf Z a 0 = some (a + 1) := h.2.1
theorem HZ0.k0 {Z : Zt} {a : Nat} (h : HZ0 Z a) : zk Z (a + 1) = 17 := h.2.2.1
theorem HZ0.l0 {Z : Zt} {a : Nat} (h : HZ0 Z a) : zl Z (a + 1) = 4 := h.2.2.2
/-- the History with its States -/
def HZ (Z : Zt) (a : Nat) : Prop := HZ0 Z a ∧ ∀ i, i < 4 → SZ Z (a + 2 + 8 * i)
def EZ0 (Z : Zt) (a : Nat) : Prop := zk Z a = 1 ∧ zf Z a 0 = some (a + 1) ∧ zk Z (a + 1) = 16 ∧ zl Z (a + 1) = 12
theorem EZ0.k {Z : Zt} {a : Nat} (h : EZ0 Z a) : zk Z a = 1 := h.1
theorem EZ0.f0 {Z : Zt} {a : Nat} (h : EZ0 Z a) : zf Z a 0 = some (a + 1) := h.2.1
theorem EZ0.k0 {Z : Zt} {a : Nat} (h : EZ0 Z a) : zk Z (a + 1) = 16 := h.2.2.1
theorem EZ0.l0 {Z : Zt} {a : Nat} (h : EZ0 Z a) : zl Z (a + 1) = 12 := h.2.2.2
def EZ (Z : Zt) (a : Nat) : Prop := EZ0 Z a ∧ ∀ i, i < 14 → RZ Z (a + 2 + 99 * i)
