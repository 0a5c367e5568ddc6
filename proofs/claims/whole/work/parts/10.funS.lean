abbrev rm_X6_isSort : Room := { frames := 0, cells := 0, slots := 0, locals := 0 }
def f_X6_isSort (v0 : Int32) (σ : MM) : Option (Int32) :=
if v0 < 0 then (
chk (isB (0 : Int32)) (some ((0 : Int32))))
else (
if (6 : Int32) ≤ v0 then (
chk (isB (0 : Int32)) (some ((0 : Int32))))
else (
chk (isB (1 : Int32)) (some ((1 : Int32)))))
abbrev rm_X6_leansRefusal : Room := { frames := 1, cells := 0, slots := 0, locals := 20 }
def f_X6_leansRefusal (v0 : Int32) (v1 : Int32) (v2 : Int32) (σ : MM) : Option (Int32) :=
(f_X6_isSort v0 σ).bind (fun r1 =>
if r1 = 0 then (
some ((-1 : Int32)))
else (
if v1 < 0 then (
some ((-4 : Int32)))
else (
if 0 ≤ v2 then (
if (100 : Int32) < v1 then (
some ((-6 : Int32)))
else (
if v2 ≤ (100 : Int32) then (
some ((0 : Int32)))
else (
some ((-6 : Int32)))))
else (
some ((-4 : Int32))))))
abbrev rm_X6_refuse : Room := { frames := 0, cells := 0, slots := 0, locals := 0 }
def f_X6_refuse (v1 : Int32) (σ : MM) : Option (Int32 × MM) :=
chk (inb (-v1) 7) (
chk (inb (-v1) 7) (lm (stI σ 15 (-v1).toNatClampNeg ((σ.1 15 (-v1).toNatClampNeg) + (1 : Int32))) (fun σ1 =>
some ((v1, σ1)))))
abbrev rm_X0_needed : Room := { frames := 0, cells := 0, slots := 0, locals := 0 }
def f_X0_needed (σ : MM) : Option (Int32) :=
chk (inb (0 : Int32) 5) (
some (σ.1 5 (0 : Int32).toNatClampNeg))
abbrev rm_X2_take : Room := { frames := 1, cells := 0, slots := 0, locals := 20 }
def g_X2_take_2 (b : Nat)  (v2 : Int32) (σ : MM) : Option ((Int32 × MM) ⊕ (MM)) :=
if (σ.1 1 4) ≤ v2 then (
some (.inr σ))
else (
chk (inb v2 12) (
chk (inb (σ.1 4 v2.toNatClampNeg) 6) (
chk (inb v2 12) (lm (stI σ (b + 1) v2.toNatClampNeg (σ.1 2 (σ.1 4 v2.toNatClampNeg).toNatClampNeg)) (fun σ1 =>
chk (inb (σ.1 4 v2.toNatClampNeg) 6) (
chk (inb v2 12) (lm (stI σ1 (b + 2) v2.toNatClampNeg (σ1.1 3 (σ.1 4 v2.toNatClampNeg).toNatClampNeg)) (fun σ2 =>
some (.inl (v2 + 1, σ2))))))))))
def f_X2_take (b : Nat) (σ : MM) : Option (MM) :=
(loopN (fun s => g_X2_take_2 b s.1 s.2) FU ((0 : Int32), σ)).bind (fun o3 =>
(f_X0_needed o3).bind (fun r5 =>
lm (stI o3 b 4 r5) (fun σ6 =>
chk (inb (3 : Int32) 5) (
(if (σ6.1 5 (3 : Int32).toNatClampNeg) = (1 : Int32) then (
some ((1 : Int32)))
else (
some ((0 : Int32)))).bind (fun o7 =>
chk (isB o7) (lm (stI σ6 b 5 o7) (fun σ10 =>
chk (inb (4 : Int32) 5) (
lm (stI σ10 b 6 (σ10.1 5 (4 : Int32).toNatClampNeg)) (fun σ11 =>
some (σ11))))))))))
abbrev rm_X6_changed : Room := { frames := 2, cells := 0, slots := 0, locals := 43 }
def f_X6_changed (σ : MM) : Option (MM) :=
(f_X2_take 16 σ).bind (fun σ2 =>
chk (isB (0 : Int32)) (lm (stI σ2 0 13 (0 : Int32)) (fun σ3 =>
chk (isB (0 : Int32)) (lm (stI σ3 0 14 (0 : Int32)) (fun σ4 =>
chk (isB (0 : Int32)) (lm (stI σ4 0 15 (0 : Int32)) (fun σ5 =>
some (σ5))))))))
abbrev rm_X6_sort : Room := { frames := 3, cells := 0, slots := 0, locals := 63 }
def f_X6_sort (v1 : Int32) (v2 : Int32) (v3 : Int32) (σ : MM) : Option (Int32 × MM) :=
(f_X6_leansRefusal v1 v2 v3 σ).bind (fun r1 =>
if r1 = 0 then (
chk (inb v1 6) (lm (stI σ 2 v1.toNatClampNeg v2) (fun σ2 =>
chk (inb v1 6) (lm (stI σ2 3 v1.toNatClampNeg v3) (fun σ3 =>
(f_X6_changed σ3).bind (fun σ5 =>
some (((1 : Int32), σ5))))))))
else (
(f_X6_refuse r1 σ).bind (uc (fun r6 σ7 =>
some ((r6, σ7))))))
abbrev rm_X0_add : Room := { frames := 0, cells := 0, slots := 0, locals := 0 }
def f_X0_add (v1 : Int32) (σ : MM) : Option (MM) :=
if (12 : Int32) ≤ (σ.1 1 4) then (
some (σ))
else (
chk (inb (σ.1 1 4) 12) (lm (stI σ 4 (σ.1 1 4).toNatClampNeg v1) (fun σ1 =>
lm (stI σ1 1 4 ((σ1.1 1 4) + (1 : Int32))) (fun σ2 =>
some (σ2)))))
abbrev rm_X6_person : Room := { frames := 3, cells := 0, slots := 0, locals := 63 }
def f_X6_person (v1 : Int32) (σ : MM) : Option (Int32 × MM) :=
(f_X6_isSort v1 σ).bind (fun r1 =>
if r1 = 0 then (
(f_X6_refuse (-1 : Int32) σ).bind (uc (fun r8 σ9 =>
some ((r8, σ9)))))
else (
if (σ.1 1 4) < (12 : Int32) then (
(f_X0_add v1 σ).bind (fun σ3 =>
(f_X6_changed σ3).bind (fun σ5 =>
some (((σ5.1 1 4) - (1 : Int32), σ5)))))
else (
(f_X6_refuse (-6 : Int32) σ).bind (uc (fun r6 σ7 =>
some ((r6, σ7)))))))
abbrev rm_X6_takeBack : Room := { frames := 3, cells := 0, slots := 0, locals := 63 }
def f_X6_takeBack (σ : MM) : Option (Int32 × MM) :=
if (σ.1 1 4) = 0 then (
(f_X6_refuse (-3 : Int32) σ).bind (uc (fun r4 σ5 =>
some ((r4, σ5)))))
else (
lm (stI σ 1 4 ((σ.1 1 4) - (1 : Int32))) (fun σ1 =>
(f_X6_changed σ1).bind (fun σ3 =>
some ((σ3.1 1 4, σ3)))))
abbrev rm_X6_set : Room := { frames := 3, cells := 0, slots := 0, locals := 63 }
def f_X6_set (v1 : Int32) (v2 : Int32) (σ : MM) : Option (Int32 × MM) :=
if v1 < 0 then (
(f_X6_refuse (-2 : Int32) σ).bind (uc (fun r1 σ2 =>
some ((r1, σ2)))))
else (
if v1 < (5 : Int32) then (
chk (inb v1 5) (
if (tLeast v1.toNatClampNeg) ≤ v2 then (
chk (inb v1 5) (
if v2 ≤ (tMost v1.toNatClampNeg) then (
chk (inb v1 5) (
chk (inb v1 5) (lm (stI σ 5 v1.toNatClampNeg v2) (fun σ3 =>
(f_X6_changed σ3).bind (fun σ5 =>
some ((σ.1 5 v1.toNatClampNeg, σ5)))))))
else (
(f_X6_refuse (-6 : Int32) σ).bind (uc (fun r6 σ7 =>
some ((r6, σ7)))))))
else (
(f_X6_refuse (-4 : Int32) σ).bind (uc (fun r8 σ9 =>
some ((r8, σ9)))))))
else (
(f_X6_refuse (-2 : Int32) σ).bind (uc (fun r10 σ11 =>
some ((r10, σ11))))))
abbrev rm_X4_append : Room := { frames := 0, cells := 0, slots := 0, locals := 0 }
def g_X4_append_3  (v1 : Int32) (v2 : Int64) (v4 : Int32) (σ : MM) : Option ((Int32 × MM) ⊕ (MM)) :=
if v1 ≤ v4 then (
some (.inr σ))
else (
if (80 : Int32) ≤ (σ.1 11 2) then (
some (.inr σ))
else (
chk (inb (σ.1 11 2) 80) (lm (stI σ 12 (σ.1 11 2).toNatClampNeg (vp_nar .byte ((((v2.toUInt64 >>> (((8 : Int32) * v4).toInt64.toUInt64 &&& Int64.toUInt64 63)).toInt64).toInt32).toInt8.toInt32))) (fun σ1 =>
lm (stI σ1 11 2 ((σ1.1 11 2) + (1 : Int32))) (fun σ2 =>
some (.inl (v4 + 1, σ2)))))))
def f_X4_append (v1 : Int32) (v2 : Int64) (σ : MM) : Option (MM) :=
(loopN (fun s => g_X4_append_3 v1 v2 s.1 s.2) FU ((0 : Int32), σ)).bind (fun o3 =>
some (o3))
abbrev rm_X6_feed : Room := { frames := 1, cells := 0, slots := 0, locals := 24 }
def f_X6_feed (v1 : Int32) (v2 : Int64) (σ : MM) : Option (Int32 × MM) :=
if (1 : Int32) ≤ v1 then (
if (8 : Int32) < v1 then (
(f_X6_refuse (-6 : Int32) σ).bind (uc (fun r1 σ2 =>
some ((r1, σ2)))))
else (
if ((σ.1 11 2) + v1) ≤ (80 : Int32) then (
(f_X4_append v1 v2 σ).bind (fun σ4 =>
some ((σ4.1 11 2, σ4))))
else (
(f_X6_refuse (-6 : Int32) σ).bind (uc (fun r5 σ6 =>
some ((r5, σ6)))))))
else (
(f_X6_refuse (-4 : Int32) σ).bind (uc (fun r7 σ8 =>
some ((r7, σ8)))))
abbrev rm_X4_isDigit : Room := { frames := 0, cells := 0, slots := 0, locals := 0 }
def f_X4_isDigit (v1 : Int32) (v2 : Int32) (σ : MM) : Option (Int32) :=
if (σ.1 11 2) ≤ (σ.1 11 3) then (
chk (isB (0 : Int32)) (some ((0 : Int32))))
else (
chk (inb (σ.1 11 3) 80) (
if (σ.1 12 (σ.1 11 3).toNatClampNeg) < ((48 : Int32) + v1) then (
chk (isB (0 : Int32)) (some ((0 : Int32))))
else (
chk (inb (σ.1 11 3) 80) (
if ((48 : Int32) + v2) < (σ.1 12 (σ.1 11 3).toNatClampNeg) then (
chk (isB (0 : Int32)) (some ((0 : Int32))))
else (
chk (isB (1 : Int32)) (some ((1 : Int32))))))))
abbrev rm_X4_fault : Room := { frames := 0, cells := 0, slots := 0, locals := 0 }
def f_X4_fault (v1 : Int32) (σ : MM) : Option (Int32 × MM) :=
lm (stI σ 11 4 v1) (fun σ1 =>
chk (isB (0 : Int32)) (some (((0 : Int32), σ1))))
abbrev rm_X4_digit : Room := { frames := 1, cells := 0, slots := 0, locals := 22 }
def f_X4_digit (v1 : Int32) (v2 : Int32) (σ : MM) : Option (Int32 × MM) :=
(f_X4_isDigit v1 v2 σ).bind (fun r1 =>
if r1 = 0 then (
(f_X4_fault (σ.1 11 3) σ).bind (uc (fun r3 σ4 =>
some (((-1 : Int32), σ4)))))
else (
lm (stI σ 11 3 ((σ.1 11 3) + (1 : Int32))) (fun σ2 =>
chk (inb ((σ2.1 11 3) - (1 : Int32)) 80) (
some (((σ2.1 12 ((σ2.1 11 3) - (1 : Int32)).toNatClampNeg) - (48 : Int32), σ2))))))
abbrev rm_X4_sign : Room := { frames := 1, cells := 0, slots := 0, locals := 21 }
def f_X4_sign (v1 : Int32) (σ : MM) : Option (Int32 × MM) :=
if (σ.1 11 2) ≤ (σ.1 11 3) then (
(f_X4_fault (σ.1 11 3) σ).bind (uc (fun r1 σ2 =>
chk (isB r1) (some ((r1, σ2))))))
else (
chk (inb (σ.1 11 3) 80) (
if (σ.1 12 (σ.1 11 3).toNatClampNeg) = v1 then (
lm (stI σ 11 3 ((σ.1 11 3) + (1 : Int32))) (fun σ3 =>
chk (isB (1 : Int32)) (some (((1 : Int32), σ3)))))
else (
(f_X4_fault (σ.1 11 3) σ).bind (uc (fun r4 σ5 =>
chk (isB r4) (some ((r4, σ5))))))))
abbrev rm_X4_number : Room := { frames := 2, cells := 0, slots := 0, locals := 44 }
def g_X4_number_15  (v1 : Int32) (v2 : Int32) (v3 : Int32) (σ : MM) : Option ((Int32 × Int32 × MM) ⊕ (Int32 × MM)) :=
if (2 : Int32) ≤ v3 then (
some (.inr (v2, σ)))
else (
if v2 ≤ 0 then (
some (.inr (v2, σ)))
else (
(f_X4_isDigit (0 : Int32) (9 : Int32) σ).bind (fun r3 =>
if r3 = 0 then (
some (.inr (v2, σ)))
else (
(f_X4_digit (0 : Int32) (9 : Int32) σ).bind (uc (fun r4 σ5 =>
some (.inl (((10 : Int32) * v2) + r4, v3 + 1, σ5))))))))
def f_X4_number (σ : MM) : Option (Int32 × MM) :=
(f_X4_digit (0 : Int32) (9 : Int32) σ).bind (uc (fun r1 σ2 =>
(loopN (fun s => g_X4_number_15 (σ.1 11 3) s.1 s.2.1 s.2.2) FU (r1, (0 : Int32), σ2)).bind (fun o6 =>
if o6.1 ≤ (100 : Int32) then (
some ((o6.1, o6.2)))
else (
(f_X4_fault (σ.1 11 3) o6.2).bind (uc (fun r8 σ9 =>
some (((-1 : Int32), σ9))))))))
abbrev rm_X4_readSort : Room := { frames := 3, cells := 0, slots := 0, locals := 67 }
def f_X4_readSort (σ : MM) : Option (Int32 × MM) :=
(f_X4_digit (0 : Int32) (5 : Int32) σ).bind (uc (fun r1 σ2 =>
if r1 < 0 then (
chk (isB (0 : Int32)) (some (((0 : Int32), σ2))))
else (
(f_X4_sign (58 : Int32) σ2).bind (uc (fun r3 σ4 =>
if r3 = 0 then (
chk (isB (0 : Int32)) (some (((0 : Int32), σ4))))
else (
(f_X4_number σ4).bind (uc (fun r5 σ6 =>
if r5 < 0 then (
chk (isB (0 : Int32)) (some (((0 : Int32), σ6))))
else (
(f_X4_sign (44 : Int32) σ6).bind (uc (fun r7 σ8 =>
if r7 = 0 then (
chk (isB (0 : Int32)) (some (((0 : Int32), σ8))))
else (
(f_X4_number σ8).bind (uc (fun r9 σ10 =>
if r9 < 0 then (
chk (isB (0 : Int32)) (some (((0 : Int32), σ10))))
else (
(f_X4_sign (59 : Int32) σ10).bind (uc (fun r11 σ12 =>
if r11 = 0 then (
chk (isB (0 : Int32)) (some (((0 : Int32), σ12))))
else (
chk (inb r1 6) (lm (stI σ12 2 r1.toNatClampNeg r5) (fun σ13 =>
chk (inb r1 6) (lm (stI σ13 3 r1.toNatClampNeg r9) (fun σ14 =>
chk (isB (1 : Int32)) (some (((1 : Int32), σ14)))))))))))))))))))))))))
abbrev rm_X4_readPeople : Room := { frames := 2, cells := 0, slots := 0, locals := 44 }
def g_X4_readPeople_84  (v3 : Int32) (v4 : Int32) (σ : MM) : Option ((Int32 × MM) ⊕ (MM)) :=
if v3 ≤ v4 then (
some (.inr σ))
else (
chk (inb v4 12) (
(f_X0_add (σ.1 13 v4.toNatClampNeg) σ).bind (fun σ4 =>
some (.inl (v4 + 1, σ4)))))
def g_X4_readPeople_10  (v2 : Int32) (v3 : Int32) (σ : MM) : Option ((Int32 × MM) ⊕ (Int32 × MM)) :=
if v2 ≤ v3 then (
if v3 = 0 then (
(f_X4_fault (σ.1 11 3) σ).bind (uc (fun r7 σ8 =>
chk (isB r7) (some (.inr ((r7, σ8)))))))
else (
(f_X4_sign (59 : Int32) σ).bind (uc (fun r1 σ2 =>
if r1 = 0 then (
chk (isB (0 : Int32)) (some (.inr (((0 : Int32), σ2)))))
else (
(loopN (fun s => g_X4_readPeople_84 v3 s.1 s.2) FU ((0 : Int32), σ2)).bind (fun o5 =>
chk (isB (1 : Int32)) (some (.inr (((1 : Int32), o5))))))))))
else (
if v3 = 0 then (
(f_X4_digit (0 : Int32) (5 : Int32) σ).bind (uc (fun r9 σ10 =>
if 0 ≤ r9 then (
chk (inb v3 12) (lm (stI σ10 13 v3.toNatClampNeg r9) (fun σ11 =>
some (.inl (v3 + 1, σ11)))))
else (
chk (isB (0 : Int32)) (some (.inr (((0 : Int32), σ10))))))))
else (
(f_X4_isDigit (0 : Int32) (5 : Int32) σ).bind (fun r12 =>
if r12 = 0 then (
if v3 = 0 then (
(f_X4_fault (σ.1 11 3) σ).bind (uc (fun r17 σ18 =>
chk (isB r17) (some (.inr ((r17, σ18)))))))
else (
(f_X4_sign (59 : Int32) σ).bind (uc (fun r13 σ14 =>
if r13 = 0 then (
chk (isB (0 : Int32)) (some (.inr (((0 : Int32), σ14)))))
else (
(loopN (fun s => g_X4_readPeople_84 v3 s.1 s.2) FU ((0 : Int32), σ14)).bind (fun o15 =>
chk (isB (1 : Int32)) (some (.inr (((1 : Int32), o15))))))))))
else (
(f_X4_digit (0 : Int32) (5 : Int32) σ).bind (uc (fun r19 σ20 =>
if 0 ≤ r19 then (
chk (inb v3 12) (lm (stI σ20 13 v3.toNatClampNeg r19) (fun σ21 =>
some (.inl (v3 + 1, σ21)))))
else (
chk (isB (0 : Int32)) (some (.inr (((0 : Int32), σ20)))))))))))
def f_X4_readPeople (σ : MM) : Option (Int32 × MM) :=
loopN (fun s => g_X4_readPeople_10 ((12 : Int32) - (σ.1 1 4)) s.1 s.2) FU ((0 : Int32), σ)
abbrev rm_X4_readTerm : Room := { frames := 2, cells := 0, slots := 0, locals := 44 }
def f_X4_readTerm (v2 : Int32) (σ : MM) : Option (Int32 × MM) :=
chk (inb v2 5) (
chk (inb v2 5) (
(f_X4_digit (tLeast v2.toNatClampNeg) (tMost v2.toNatClampNeg) σ).bind (uc (fun r1 σ2 =>
if r1 < 0 then (
chk (isB (0 : Int32)) (some (((0 : Int32), σ2))))
else (
(f_X4_sign (59 : Int32) σ2).bind (uc (fun r3 σ4 =>
if r3 = 0 then (
chk (isB (0 : Int32)) (some (((0 : Int32), σ4))))
else (
chk (inb v2 5) (lm (stI σ4 5 v2.toNatClampNeg r1) (fun σ5 =>
chk (isB (1 : Int32)) (some (((1 : Int32), σ5)))))))))))))
abbrev rm_X4_readStrikes : Room := { frames := 2, cells := 0, slots := 0, locals := 44 }
def f_X4_readStrikes (σ : MM) : Option (Int32 × MM) :=
(f_X4_digit (0 : Int32) (3 : Int32) σ).bind (uc (fun r1 σ2 =>
if 0 ≤ r1 then (
(f_X4_digit (0 : Int32) (3 : Int32) σ2).bind (uc (fun r3 σ4 =>
if r3 < 0 then (
chk (isB (0 : Int32)) (some (((0 : Int32), σ4))))
else (
(f_X4_sign (59 : Int32) σ4).bind (uc (fun r5 σ6 =>
if r5 = 0 then (
chk (isB (0 : Int32)) (some (((0 : Int32), σ6))))
else (
chk (inb (1 : Int32) 5) (lm (stI σ6 5 (1 : Int32).toNatClampNeg r1) (fun σ7 =>
chk (inb (2 : Int32) 5) (lm (stI σ7 5 (2 : Int32).toNatClampNeg r3) (fun σ8 =>
chk (isB (1 : Int32)) (some (((1 : Int32), σ8))))))))))))))
else (
chk (isB (0 : Int32)) (some (((0 : Int32), σ2))))))
abbrev rm_X4_readTruth : Room := { frames := 3, cells := 0, slots := 0, locals := 67 }
def f_X4_readTruth (σ : MM) : Option (Int32 × MM) :=
(f_X4_number σ).bind (uc (fun r1 σ2 =>
if r1 < 0 then (
chk (isB (0 : Int32)) (some (((0 : Int32), σ2))))
else (
(f_X4_sign (59 : Int32) σ2).bind (uc (fun r3 σ4 =>
if r3 = 0 then (
chk (isB (0 : Int32)) (some (((0 : Int32), σ4))))
else (
chk (inb (4 : Int32) 5) (lm (stI σ4 5 (4 : Int32).toNatClampNeg r1) (fun σ5 =>
chk (isB (1 : Int32)) (some (((1 : Int32), σ5)))))))))))
abbrev rm_X4_readStatement : Room := { frames := 4, cells := 0, slots := 0, locals := 91 }
def f_X4_readStatement (σ : MM) : Option (Int32 × MM) :=
chk (inb (σ.1 11 3) 80) (
if (σ.1 12 (σ.1 11 3).toNatClampNeg) = (104 : Int32) then (
lm (stI σ 11 3 ((σ.1 11 3) + (1 : Int32))) (fun σ1 =>
(f_X4_readTerm (3 : Int32) σ1).bind (uc (fun r2 σ3 =>
chk (isB r2) (some ((r2, σ3)))))))
else (if (σ.1 12 (σ.1 11 3).toNatClampNeg) = (110 : Int32) then (
lm (stI σ 11 3 ((σ.1 11 3) + (1 : Int32))) (fun σ4 =>
(f_X4_readTerm (0 : Int32) σ4).bind (uc (fun r5 σ6 =>
chk (isB r5) (some ((r5, σ6)))))))
else (if (σ.1 12 (σ.1 11 3).toNatClampNeg) = (112 : Int32) then (
lm (stI σ 11 3 ((σ.1 11 3) + (1 : Int32))) (fun σ7 =>
(f_X4_readPeople σ7).bind (uc (fun r8 σ9 =>
chk (isB r8) (some ((r8, σ9)))))))
else (if (σ.1 12 (σ.1 11 3).toNatClampNeg) = (115 : Int32) then (
lm (stI σ 11 3 ((σ.1 11 3) + (1 : Int32))) (fun σ10 =>
(f_X4_readSort σ10).bind (uc (fun r11 σ12 =>
chk (isB r11) (some ((r11, σ12)))))))
else (if (σ.1 12 (σ.1 11 3).toNatClampNeg) = (116 : Int32) then (
lm (stI σ 11 3 ((σ.1 11 3) + (1 : Int32))) (fun σ13 =>
(f_X4_readTruth σ13).bind (uc (fun r14 σ15 =>
chk (isB r14) (some ((r14, σ15)))))))
else (if (σ.1 12 (σ.1 11 3).toNatClampNeg) = (120 : Int32) then (
lm (stI σ 11 3 ((σ.1 11 3) + (1 : Int32))) (fun σ16 =>
(f_X4_readStrikes σ16).bind (uc (fun r17 σ18 =>
chk (isB r17) (some ((r17, σ18)))))))
else ((f_X4_fault (σ.1 11 3) σ).bind (uc (fun r19 σ20 =>
chk (isB r19) (some ((r19, σ20))))))))))))
abbrev rm_X4_readInto : Room := { frames := 5, cells := 0, slots := 0, locals := 113 }
def g_X4_readInto_9   (v2 : Int32) (v3 : Int32) (σ : MM) : Option ((Int32 × Int32 × MM) ⊕ (Int32 × Int32 × MM)) :=
if v3 = 0 then (
some (.inr (v2, v3, σ)))
else (
if (σ.1 11 2) ≤ (σ.1 11 3) then (
some (.inr (v2, v3, σ)))
else (
if (80 : Int32) ≤ v2 then (
some (.inr (v2, v3, σ)))
else (
(f_X4_readStatement σ).bind (uc (fun r2 σ3 =>
some (.inl (v2 + 1, r2, σ3)))))))
def f_X4_readInto (σ : MM) : Option (Int32 × MM) :=
lm (stI σ 11 3 (0 : Int32)) (fun σ1 =>
(loopN (fun s => g_X4_readInto_9 s.1 s.2.1 s.2.2) FU ((0 : Int32), (1 : Int32), σ1)).bind (fun o4 =>
lm (stI o4.2.2 11 2 (0 : Int32)) (fun σ6 =>
if o4.2.1 = 0 then (
some (((-20 : Int32) - (σ6.1 11 4), σ6)))
else (
some ((o4.1, σ6))))))
abbrev rm_X6_court : Room := { frames := 6, cells := 0, slots := 0, locals := 136 }
def f_X6_court (σ : MM) : Option (Int32 × MM) :=
(f_X4_readInto σ).bind (uc (fun r1 σ2 =>
(f_X6_changed σ2).bind (fun σ4 =>
some ((r1, σ4)))))
abbrev rm_X6_setOfFirst : Room := { frames := 0, cells := 0, slots := 0, locals := 0 }
def f_X6_setOfFirst (v0 : Int32) (σ : MM) : Option (Int32) :=
some (((1 : Int32) <<< (v0 &&& 31)) - (1 : Int32))
abbrev rm_X0_everyone : Room := { frames := 1, cells := 0, slots := 0, locals := 20 }
def f_X0_everyone (σ : MM) : Option (Int32) :=
(f_X6_setOfFirst (σ.1 1 4) σ).bind (fun r1 =>
some (r1))
abbrev rm_J6_bitCount_0f7a4 : Room := { frames := 0, cells := 0, slots := 0, locals := 0 }
def f_J6_bitCount_0f7a4 (v0 : Int32) (σ : MM) : Option (Int32) :=
some ((((((((v0 - (((v0.toUInt32 >>> ((1 : Int32).toUInt32 &&& Int32.toUInt32 31)).toInt32) &&& (1431655765 : Int32))) &&& (858993459 : Int32)) + ((((v0 - (((v0.toUInt32 >>> ((1 : Int32).toUInt32 &&& Int32.toUInt32 31)).toInt32) &&& (1431655765 : Int32))).toUInt32 >>> ((2 : Int32).toUInt32 &&& Int32.toUInt32 31)).toInt32) &&& (858993459 : Int32))) + (((((v0 - (((v0.toUInt32 >>> ((1 : Int32).toUInt32 &&& Int32.toUInt32 31)).toInt32) &&& (1431655765 : Int32))) &&& (858993459 : Int32)) + ((((v0 - (((v0.toUInt32 >>> ((1 : Int32).toUInt32 &&& Int32.toUInt32 31)).toInt32) &&& (1431655765 : Int32))).toUInt32 >>> ((2 : Int32).toUInt32 &&& Int32.toUInt32 31)).toInt32) &&& (858993459 : Int32))).toUInt32 >>> ((4 : Int32).toUInt32 &&& Int32.toUInt32 31)).toInt32)) &&& (252645135 : Int32)) + (((((((v0 - (((v0.toUInt32 >>> ((1 : Int32).toUInt32 &&& Int32.toUInt32 31)).toInt32) &&& (1431655765 : Int32))) &&& (858993459 : Int32)) + ((((v0 - (((v0.toUInt32 >>> ((1 : Int32).toUInt32 &&& Int32.toUInt32 31)).toInt32) &&& (1431655765 : Int32))).toUInt32 >>> ((2 : Int32).toUInt32 &&& Int32.toUInt32 31)).toInt32) &&& (858993459 : Int32))) + (((((v0 - (((v0.toUInt32 >>> ((1 : Int32).toUInt32 &&& Int32.toUInt32 31)).toInt32) &&& (1431655765 : Int32))) &&& (858993459 : Int32)) + ((((v0 - (((v0.toUInt32 >>> ((1 : Int32).toUInt32 &&& Int32.toUInt32 31)).toInt32) &&& (1431655765 : Int32))).toUInt32 >>> ((2 : Int32).toUInt32 &&& Int32.toUInt32 31)).toInt32) &&& (858993459 : Int32))).toUInt32 >>> ((4 : Int32).toUInt32 &&& Int32.toUInt32 31)).toInt32)) &&& (252645135 : Int32)).toUInt32 >>> ((8 : Int32).toUInt32 &&& Int32.toUInt32 31)).toInt32)) + ((((((((v0 - (((v0.toUInt32 >>> ((1 : Int32).toUInt32 &&& Int32.toUInt32 31)).toInt32) &&& (1431655765 : Int32))) &&& (858993459 : Int32)) + ((((v0 - (((v0.toUInt32 >>> ((1 : Int32).toUInt32 &&& Int32.toUInt32 31)).toInt32) &&& (1431655765 : Int32))).toUInt32 >>> ((2 : Int32).toUInt32 &&& Int32.toUInt32 31)).toInt32) &&& (858993459 : Int32))) + (((((v0 - (((v0.toUInt32 >>> ((1 : Int32).toUInt32 &&& Int32.toUInt32 31)).toInt32) &&& (1431655765 : Int32))) &&& (858993459 : Int32)) + ((((v0 - (((v0.toUInt32 >>> ((1 : Int32).toUInt32 &&& Int32.toUInt32 31)).toInt32) &&& (1431655765 : Int32))).toUInt32 >>> ((2 : Int32).toUInt32 &&& Int32.toUInt32 31)).toInt32) &&& (858993459 : Int32))).toUInt32 >>> ((4 : Int32).toUInt32 &&& Int32.toUInt32 31)).toInt32)) &&& (252645135 : Int32)) + (((((((v0 - (((v0.toUInt32 >>> ((1 : Int32).toUInt32 &&& Int32.toUInt32 31)).toInt32) &&& (1431655765 : Int32))) &&& (858993459 : Int32)) + ((((v0 - (((v0.toUInt32 >>> ((1 : Int32).toUInt32 &&& Int32.toUInt32 31)).toInt32) &&& (1431655765 : Int32))).toUInt32 >>> ((2 : Int32).toUInt32 &&& Int32.toUInt32 31)).toInt32) &&& (858993459 : Int32))) + (((((v0 - (((v0.toUInt32 >>> ((1 : Int32).toUInt32 &&& Int32.toUInt32 31)).toInt32) &&& (1431655765 : Int32))) &&& (858993459 : Int32)) + ((((v0 - (((v0.toUInt32 >>> ((1 : Int32).toUInt32 &&& Int32.toUInt32 31)).toInt32) &&& (1431655765 : Int32))).toUInt32 >>> ((2 : Int32).toUInt32 &&& Int32.toUInt32 31)).toInt32) &&& (858993459 : Int32))).toUInt32 >>> ((4 : Int32).toUInt32 &&& Int32.toUInt32 31)).toInt32)) &&& (252645135 : Int32)).toUInt32 >>> ((8 : Int32).toUInt32 &&& Int32.toUInt32 31)).toInt32)).toUInt32 >>> ((16 : Int32).toUInt32 &&& Int32.toUInt32 31)).toInt32)) &&& (63 : Int32))
abbrev rm_X6_juryRefusal : Room := { frames := 2, cells := 0, slots := 0, locals := 40 }
def f_X6_juryRefusal (v1 : Int32) (σ : MM) : Option (Int32) :=
(f_X0_everyone σ).bind (fun r1 =>
if (v1 &&& (r1 ^^^ (-1 : Int32))) = 0 then (
(f_J6_bitCount_0f7a4 v1 σ).bind (fun r2 =>
(f_X0_needed σ).bind (fun r3 =>
if r2 = r3 then (
some ((0 : Int32)))
else (
some ((-3 : Int32))))))
else (
some ((-1 : Int32))))
abbrev rm_X6_refuseLong : Room := { frames := 1, cells := 0, slots := 0, locals := 21 }
def f_X6_refuseLong (v1 : Int32) (σ : MM) : Option (Int64 × MM) :=
(f_X6_refuse v1 σ).bind (uc (fun r1 σ2 =>
some ((r1.toInt64 - (4000000000000000000 : Int64), σ2))))
abbrev rm_X2_spreadOut : Room := { frames := 0, cells := 0, slots := 0, locals := 0 }
def g_X2_spreadOut_79 (b : Nat) (q1 : Nat) (v2 : Int32) (v3 : Int32) (v4 : Int32) (v5 : Int64) (v7 : Int64) (v9 : Int32) (σ : MM) : Option ((Int32 × MM) ⊕ (MM)) :=
if v9 ≤ 0 then (
some (.inr σ))
else (
chk (inb v9 8) (
chk (inb (v9 - (1 : Int32)) 8) (
chk (inb v9 8) (lm (stL σ (b + 3) v9.toNatClampNeg (((σ.2 (b + 3) v9.toNatClampNeg) * v7) + ((σ.2 (b + 3) (v9 - (1 : Int32)).toNatClampNeg) * v5))) (fun σ3 =>
some (.inl (v9 + (-1), σ3)))))))
def g_X2_spreadOut_12 (b : Nat) (q1 : Nat) (v2 : Int32) (v3 : Int32) (v4 : Int32) (σ : MM) : Option ((Int32 × Int32 × MM) ⊕ (MM)) :=
if (12 : Int32) ≤ v4 then (
some (.inr σ))
else (
if (σ.1 b 4) ≤ v3 then (
some (.inr σ))
else (
if (v2 &&& ((1 : Int32) <<< (v4 &&& 31))) = 0 then (
some (.inl (v3, v4 + 1, σ)))
else (
chk (inb v4 12) (
chk (inb ((v3 + 1) - (1 : Int32)) 8) (
chk (inb (v3 + 1) 8) (lm (stL σ (b + 3) (v3 + 1).toNatClampNeg ((σ.2 (b + 3) ((v3 + 1) - (1 : Int32)).toNatClampNeg) * ((σ.1 q1 v4.toNatClampNeg).toInt64))) (fun σ2 =>
(loopN (fun s => g_X2_spreadOut_79 b q1 v2 (v3 + 1) v4 ((σ.1 q1 v4.toNatClampNeg).toInt64) ((100 : Int64) - ((σ.1 q1 v4.toNatClampNeg).toInt64)) s.1 s.2) FU ((v3 + 1) - (1 : Int32), σ2)).bind (fun o4 =>
chk (inb (0 : Int32) 8) (
chk (inb (0 : Int32) 8) (lm (stL o4 (b + 3) (0 : Int32).toNatClampNeg ((o4.2 (b + 3) (0 : Int32).toNatClampNeg) * ((100 : Int64) - ((σ.1 q1 v4.toNatClampNeg).toInt64)))) (fun σ6 =>
some (.inl (v3 + 1, v4 + 1, σ6)))))))))))))
def f_X2_spreadOut (b : Nat) (q1 : Nat) (v2 : Int32) (σ : MM) : Option (MM) :=
chk (inb (0 : Int32) 8) (lm (stL σ (b + 3) (0 : Int32).toNatClampNeg (1 : Int64)) (fun σ1 =>
(loopN (fun s => g_X2_spreadOut_12 b q1 v2 s.1 s.2.1 s.2.2) FU ((0 : Int32), (0 : Int32), σ1)).bind (fun o7 =>
some (o7))))
abbrev rm_X2_spreadSum : Room := { frames := 0, cells := 0, slots := 0, locals := 0 }
def g_X2_spreadSum_5 (b : Nat) (v2 : Int32) (v3 : Int64) (v5 : Int32) (σ : MM) : Option ((Int64 × Int32) ⊕ (Int64)) :=
if v2 < v5 then (
some (.inr v3))
else (
chk (inb v5 8) (
some (.inl (v3 + (σ.2 (b + 3) v5.toNatClampNeg), v5 + 1))))
def f_X2_spreadSum (b : Nat) (v1 : Int32) (v2 : Int32) (σ : MM) : Option (Int64) :=
(loopN (fun s => g_X2_spreadSum_5 b v2 s.1 s.2 σ) FU ((0 : Int64), v1)).bind (fun o1 =>
some (o1))
abbrev rm_X2_findsForA : Room := { frames := 1, cells := 0, slots := 0, locals := 25 }
def f_X2_findsForA (b : Nat) (σ : MM) : Option (Int64) :=
if (σ.1 b 5) = 0 then (
chk (!(decide ((2 : Int32) = 0))) (
(f_X2_spreadSum b (((σ.1 b 4) / (2 : Int32)) + (1 : Int32)) (σ.1 b 4) σ).bind (fun r1 =>
some (r1))))
else (
chk (inb (σ.1 b 4) 8) (
some (σ.2 (b + 3) (σ.1 b 4).toNatClampNeg)))
abbrev rm_X2_chanceOf : Room := { frames := 2, cells := 0, slots := 0, locals := 45 }
def f_X2_chanceOf (b : Nat) (v1 : Int32) (σ : MM) : Option (Int64 × MM) :=
(f_X2_spreadOut b (b + 1) v1 σ).bind (fun σ2 =>
(f_X2_findsForA b σ2).bind (fun r3 =>
(f_X2_spreadOut b (b + 2) v1 σ2).bind (fun σ5 =>
(f_X2_findsForA b σ5).bind (fun r6 =>
some (((((σ5.1 b 6).toInt64) * r3) + ((((100 : Int32) - (σ5.1 b 6)).toInt64) * r6), σ5))))))
abbrev rm_X6_chance : Room := { frames := 3, cells := 0, slots := 0, locals := 68 }
def f_X6_chance (v1 : Int32) (σ : MM) : Option (Int64 × MM) :=
(f_X6_juryRefusal v1 σ).bind (fun r1 =>
if r1 = 0 then (
(f_X2_chanceOf 16 v1 σ).bind (uc (fun r2 σ3 =>
some ((r2, σ3)))))
else (
(f_X6_refuseLong r1 σ).bind (uc (fun r4 σ5 =>
some ((r4, σ5))))))
abbrev rm_X2_findsForB : Room := { frames := 1, cells := 0, slots := 0, locals := 25 }
def f_X2_findsForB (σ : MM) : Option (Int64) :=
if (σ.1 16 5) = 0 then (
chk (!(decide ((2 : Int32) = 0))) (
(f_X2_spreadSum 16 (0 : Int32) ((σ.1 16 4) / (2 : Int32)) σ).bind (fun r1 =>
some (r1))))
else (
chk (inb (0 : Int32) 8) (
some (σ.2 19 (0 : Int32).toNatClampNeg)))
abbrev rm_X2_rightOf : Room := { frames := 2, cells := 0, slots := 0, locals := 45 }
def f_X2_rightOf (v1 : Int32) (σ : MM) : Option (Int64 × MM) :=
(f_X2_spreadOut 16 17 v1 σ).bind (fun σ2 =>
(f_X2_findsForA 16 σ2).bind (fun r3 =>
(f_X2_spreadOut 16 18 v1 σ2).bind (fun σ5 =>
(f_X2_findsForB σ5).bind (fun r6 =>
some (((((σ5.1 16 6).toInt64) * r3) + ((((100 : Int32) - (σ5.1 16 6)).toInt64) * r6), σ5))))))
abbrev rm_X6_right : Room := { frames := 3, cells := 0, slots := 0, locals := 68 }
def f_X6_right (v1 : Int32) (σ : MM) : Option (Int64 × MM) :=
(f_X6_juryRefusal v1 σ).bind (fun r1 =>
if r1 = 0 then (
(f_X2_rightOf v1 σ).bind (uc (fun r2 σ3 =>
some ((r2, σ3)))))
else (
(f_X6_refuseLong r1 σ).bind (uc (fun r4 σ5 =>
some ((r4, σ5))))))
abbrev rm_X6_isSide : Room := { frames := 0, cells := 0, slots := 0, locals := 0 }
def f_X6_isSide (v0 : Int32) (σ : MM) : Option (Int32) :=
if v0 = 0 then (
chk (isB (1 : Int32)) (some ((1 : Int32))))
else (
if v0 = (1 : Int32) then (
chk (isB (1 : Int32)) (some ((1 : Int32))))
else (
chk (isB (0 : Int32)) (some ((0 : Int32)))))
abbrev rm_X6_leftRefusal : Room := { frames := 2, cells := 0, slots := 0, locals := 40 }
def f_X6_leftRefusal (v1 : Int32) (v2 : Int32) (v3 : Int32) (σ : MM) : Option (Int32) :=
(f_X6_isSide v3 σ).bind (fun r1 =>
if r1 = 0 then (
some ((-1 : Int32)))
else (
(f_X0_everyone σ).bind (fun r2 =>
if (v1 &&& (r2 ^^^ (-1 : Int32))) = 0 then (
if 0 ≤ v2 then (
chk (!(decide ((10 : Int32) = 0))) (
chk (!(decide ((10 : Int32) = 0))) (
if (3 : Int32) < (v2 / (10 : Int32)) then (
some ((-6 : Int32)))
else (
if (v2 - v2 / (10 : Int32) * (10 : Int32)) ≤ (3 : Int32) then (
(f_J6_bitCount_0f7a4 v1 σ).bind (fun r3 =>
(f_X0_needed σ).bind (fun r4 =>
if r3 = ((r4 + (v2 / (10 : Int32))) + (v2 - v2 / (10 : Int32) * (10 : Int32))) then (
some ((0 : Int32)))
else (
some ((-3 : Int32))))))
else (
some ((-6 : Int32)))))))
else (
some ((-4 : Int32))))
else (
some ((-1 : Int32))))))
abbrev rm_X5_sideAt : Room := { frames := 0, cells := 0, slots := 0, locals := 0 }
def g_X5_sideAt_14  (v0 : Int32) (v4 : Int32) (v5 : Int32) (v6 : Int32) (v7 : Int32) (σ : MM) : Option ((Int32 × Int32 × Int32 × Int32) ⊕ (Int32)) :=
if v0 < v7 then (
some (.inr v6))
else (
(if ((1 : Int32) - v6) = 0 then (
some (v4))
else (
some (v5))).bind (fun o1 =>
(if o1 = 0 then (
some ((1 : Int32) - ((1 : Int32) - v6)))
else (
some ((1 : Int32) - v6))).bind (fun o4 =>
if o4 = 0 then (
some (.inl (v4 + (-1), v5, o4, v7 + 1)))
else (
some (.inl (v4, v5 + (-1), o4, v7 + 1))))))
def f_X5_sideAt (v0 : Int32) (v1 : Int32) (v2 : Int32) (v3 : Int32) (σ : MM) : Option (Int32) :=
(loopN (fun s => g_X5_sideAt_14 v0 s.1 s.2.1 s.2.2.1 s.2.2.2 σ) FU (v1, v2, (1 : Int32) - v3, (0 : Int32))).bind (fun o7 =>
some (o7))
abbrev rm_X2_areAlike : Room := { frames := 0, cells := 0, slots := 0, locals := 0 }
def f_X2_areAlike (b : Nat) (v1 : Int32) (v2 : Int32) (σ : MM) : Option (Int32) :=
chk (inb v1 12) (
chk (inb v2 12) (
if (σ.1 (b + 1) v1.toNatClampNeg) = (σ.1 (b + 1) v2.toNatClampNeg) then (
chk (inb v1 12) (
chk (inb v2 12) (
if (σ.1 (b + 2) v1.toNatClampNeg) = (σ.1 (b + 2) v2.toNatClampNeg) then (
chk (isB (1 : Int32)) (some ((1 : Int32))))
else (
chk (isB (0 : Int32)) (some ((0 : Int32)))))))
else (
chk (isB (0 : Int32)) (some ((0 : Int32))))))
abbrev rm_X5_findTwins : Room := { frames := 1, cells := 0, slots := 0, locals := 22 }
def g_X5_findTwins_17 (b : Nat) (q1 : Nat) (v2 : Int32) (v3 : Int32) (σ : MM) : Option ((Int32 × MM) ⊕ (MM)) :=
if v2 ≤ v3 then (
some (.inr σ))
else (
if ((σ.1 b 3) &&& ((1 : Int32) <<< (v3 &&& 31))) = 0 then (
some (.inl (v3 + 1, σ)))
else (
(f_X2_areAlike q1 v2 v3 σ).bind (fun r2 =>
if r2 = 0 then (
some (.inl (v3 + 1, σ)))
else (
chk (inb v2 12) (lm (stI σ (b + 2) v2.toNatClampNeg ((1 : Int32) <<< (v3 &&& 31))) (fun σ3 =>
some (.inl (v3 + 1, σ3))))))))
def g_X5_findTwins_2 (b : Nat) (q1 : Nat)  (v2 : Int32) (σ : MM) : Option ((Int32 × MM) ⊕ (MM)) :=
if (12 : Int32) ≤ v2 then (
some (.inr σ))
else (
chk (inb v2 12) (lm (stI σ (b + 2) v2.toNatClampNeg (0 : Int32)) (fun σ1 =>
(loopN (fun s => g_X5_findTwins_17 b q1 v2 s.1 s.2) FU ((0 : Int32), σ1)).bind (fun o4 =>
some (.inl (v2 + 1, o4))))))
def f_X5_findTwins (b : Nat) (q1 : Nat) (σ : MM) : Option (MM) :=
(loopN (fun s => g_X5_findTwins_2 b q1 s.1 s.2) FU ((0 : Int32), σ)).bind (fun o6 =>
some (o6))
abbrev rm_X5_lesserLike : Room := { frames := 0, cells := 0, slots := 0, locals := 0 }
def g_X5_lesserLike_2 (b : Nat) (v1 : Int32) (v2 : Int32) (σ : MM) : Option ((Int32) ⊕ (Int32)) :=
if (12 : Int32) ≤ v2 then (
some (.inr (v1)))
else (
chk (inb v2 12) (
if (v1 &&& ((1 : Int32) <<< (v2 &&& 31))) = 0 then (
some (.inl (v2 + 1)))
else (
if (σ.1 (b + 2) v2.toNatClampNeg) = 0 then (
some (.inl (v2 + 1)))
else (
if (v1 &&& (σ.1 (b + 2) v2.toNatClampNeg)) = 0 then (
some (.inr ((v1 ^^^ ((1 : Int32) <<< (v2 &&& 31))) ^^^ (σ.1 (b + 2) v2.toNatClampNeg))))
else (
some (.inl (v2 + 1)))))))
def f_X5_lesserLike (b : Nat) (v1 : Int32) (σ : MM) : Option (Int32) :=
loopN (fun s => g_X5_lesserLike_2 b v1 s σ) FU (1 : Int32)
abbrev rm_X5_valueAfterBest : Room := { frames := 1, cells := 0, slots := 0, locals := 23 }
def g_X5_valueAfterBest_17 (b : Nat) (v1 : Int32) (v2 : Int32) (v3 : Int64) (v5 : Int32) (σ : MM) : Option ((Int64 × Int32) ⊕ (Int64)) :=
if (4096 : Int32) ≤ v5 then (
some (.inr v3))
else (
if (v1 &&& v5) = 0 then (
some (.inl (v3, v5 <<< ((1 : Int32) &&& 31))))
else (
chk (inb (v1 ^^^ v5) 4096) (
(if v2 = 0 then (
some (if (σ.2 (b + 3) (v1 ^^^ v5).toNatClampNeg) < v3 then v3 else (σ.2 (b + 3) (v1 ^^^ v5).toNatClampNeg)))
else (
some (if (σ.2 (b + 3) (v1 ^^^ v5).toNatClampNeg) < v3 then (σ.2 (b + 3) (v1 ^^^ v5).toNatClampNeg) else v3))).bind (fun o4 =>
some (.inl (o4, v5 <<< ((1 : Int32) &&& 31)))))))
def f_X5_valueAfterBest (b : Nat) (v1 : Int32) (v2 : Int32) (σ : MM) : Option (Int64) :=
(if v2 = 0 then (
some ((-1 : Int64)))
else (
some ((10000000000000001 : Int64)))).bind (fun o1 =>
(loopN (fun s => g_X5_valueAfterBest_17 b v1 v2 s.1 s.2 σ) FU (o1, (1 : Int32))).bind (fun o7 =>
some (o7)))
abbrev rm_X5_worthOf : Room := { frames := 3, cells := 0, slots := 0, locals := 68 }
def f_X5_worthOf (b : Nat) (q1 : Nat) (v2 : Int32) (σ : MM) : Option (Int64 × MM) :=
(f_X5_lesserLike b v2 σ).bind (fun r1 =>
if r1 = v2 then (
(f_J6_bitCount_0f7a4 v2 σ).bind (fun r2 =>
if r2 = (σ.1 b 5) then (
(f_X2_chanceOf q1 v2 σ).bind (uc (fun r4 σ5 =>
some ((r4, σ5)))))
else (
chk (inb (((σ.1 b 5) + (σ.1 b 4)) - r2) 6) (
(f_X5_valueAfterBest b v2 (σ.1 (b + 1) (((σ.1 b 5) + (σ.1 b 4)) - r2).toNatClampNeg) σ).bind (fun r3 =>
some ((r3, σ)))))))
else (
chk (inb r1 4096) (
some ((σ.2 (b + 3) r1.toNatClampNeg, σ)))))
abbrev rm_X5_lookBack : Room := { frames := 4, cells := 0, slots := 0, locals := 92 }
def g_X5_lookBack_24 (b : Nat) (q1 : Nat) (v3 : Int32) (v4 : Int32) (v5 : Int32) (v6 : Int32) (σ : MM) : Option ((Int32 × MM) ⊕ (MM)) :=
if (σ.1 b 4) ≤ v6 then (
some (.inr σ))
else (
(f_X5_sideAt v6 v3 v4 v5 σ).bind (fun r4 =>
chk (inb v6 6) (lm (stI σ (b + 1) v6.toNatClampNeg r4) (fun σ5 =>
some (.inl (v6 + 1, σ5))))))
def g_X5_lookBack_64 (b : Nat) (q1 : Nat)  (v6 : Int32) (σ : MM) : Option ((Int32 × MM) ⊕ (MM)) :=
if (σ.1 b 3) < v6 then (
some (.inr σ))
else (
if (v6 &&& ((σ.1 b 3) ^^^ (-1 : Int32))) = 0 then (
(f_J6_bitCount_0f7a4 v6 σ).bind (fun r10 =>
if r10 < (σ.1 b 5) then (
some (.inl (v6 + 1, σ)))
else (
(f_X5_worthOf b q1 v6 σ).bind (uc (fun r11 σ12 =>
chk (inb v6 4096) (lm (stL σ12 (b + 3) v6.toNatClampNeg r11) (fun σ13 =>
some (.inl (v6 + 1, σ13)))))))))
else (
some (.inl (v6 + 1, σ))))
def f_X5_lookBack (b : Nat) (q1 : Nat) (v2 : Int32) (v3 : Int32) (v4 : Int32) (v5 : Int32) (σ : MM) : Option (MM) :=
lm (stI σ b 3 v2) (fun σ1 =>
lm (stI σ1 b 4 (v3 + v4)) (fun σ2 =>
lm (stI σ2 b 5 (σ2.1 q1 4)) (fun σ3 =>
(loopN (fun s => g_X5_lookBack_24 b q1 v3 v4 v5 s.1 s.2) FU ((0 : Int32), σ3)).bind (fun o6 =>
(f_X5_findTwins b q1 o6).bind (fun σ9 =>
(loopN (fun s => g_X5_lookBack_64 b q1 s.1 s.2) FU ((1 : Int32), σ9)).bind (fun o14 =>
some (o14)))))))
abbrev rm_X5_valueOf : Room := { frames := 0, cells := 0, slots := 0, locals := 0 }
def f_X5_valueOf (b : Nat) (v1 : Int32) (σ : MM) : Option (Int64) :=
chk (inb v1 4096) (
some (σ.2 (b + 3) v1.toNatClampNeg))
abbrev rm_X6_best : Room := { frames := 5, cells := 0, slots := 0, locals := 118 }
def f_X6_best (v1 : Int32) (v2 : Int32) (v3 : Int32) (σ : MM) : Option (Int64 × MM) :=
(f_X6_leftRefusal v1 v2 v3 σ).bind (fun r1 =>
if r1 = 0 then (
chk (!(decide ((10 : Int32) = 0))) (
chk (!(decide ((10 : Int32) = 0))) (
(f_X5_lookBack 46 16 v1 (v2 / (10 : Int32)) (v2 - v2 / (10 : Int32) * (10 : Int32)) v3 σ).bind (fun σ3 =>
(f_X5_valueOf 46 v1 σ3).bind (fun r4 =>
some ((r4, σ3)))))))
else (
(f_X6_refuseLong r1 σ).bind (uc (fun r5 σ6 =>
some ((r5, σ6))))))
abbrev rm_X5_strikeFrom : Room := { frames := 1, cells := 0, slots := 0, locals := 20 }
def g_X5_strikeFrom_16 (b : Nat) (v1 : Int32) (v2 : Int32) (σ : MM) : Option ((Int32) ⊕ (Int32)) :=
if (12 : Int32) ≤ v2 then (
some (.inr ((-9 : Int32))))
else (
if (v1 &&& ((1 : Int32) <<< (v2 &&& 31))) = 0 then (
some (.inl (v2 + 1)))
else (
chk (inb (v1 ^^^ ((1 : Int32) <<< (v2 &&& 31))) 4096) (
chk (inb v1 4096) (
if (σ.2 (b + 3) (v1 ^^^ ((1 : Int32) <<< (v2 &&& 31))).toNatClampNeg) = (σ.2 (b + 3) v1.toNatClampNeg) then (
some (.inr (v2)))
else (
some (.inl (v2 + 1)))))))
def f_X5_strikeFrom (b : Nat) (v1 : Int32) (σ : MM) : Option (Int32) :=
(f_J6_bitCount_0f7a4 v1 σ).bind (fun r1 =>
if (σ.1 b 5) < r1 then (
loopN (fun s => g_X5_strikeFrom_16 b v1 s σ) FU (0 : Int32))
else (
some ((-9 : Int32))))
abbrev rm_X6_strike : Room := { frames := 5, cells := 0, slots := 0, locals := 118 }
def f_X6_strike (v1 : Int32) (v2 : Int32) (v3 : Int32) (σ : MM) : Option (Int32 × MM) :=
(f_X6_leftRefusal v1 v2 v3 σ).bind (fun r1 =>
if r1 = 0 then (
chk (!(decide ((10 : Int32) = 0))) (
chk (!(decide ((10 : Int32) = 0))) (
(f_X5_lookBack 46 16 v1 (v2 / (10 : Int32)) (v2 - v2 / (10 : Int32) * (10 : Int32)) v3 σ).bind (fun σ3 =>
(f_X5_strikeFrom 46 v1 σ3).bind (fun r4 =>
some ((r4, σ3)))))))
else (
(f_X6_refuse r1 σ).bind (uc (fun r5 σ6 =>
some ((r5, σ6))))))
abbrev rm_X0_strikes : Room := { frames := 0, cells := 0, slots := 0, locals := 0 }
def f_X0_strikes (σ : MM) : Option (Int32) :=
chk (inb (1 : Int32) 5) (
chk (inb (2 : Int32) 5) (
some ((σ.1 5 (1 : Int32).toNatClampNeg) + (σ.1 5 (2 : Int32).toNatClampNeg))))
abbrev rm_X0_called : Room := { frames := 1, cells := 0, slots := 0, locals := 20 }
def f_X0_called (σ : MM) : Option (Int32) :=
(f_X0_needed σ).bind (fun r1 =>
(f_X0_strikes σ).bind (fun r2 =>
if (σ.1 1 4) < (r1 + r2) then (
some ((0 : Int32)))
else (
some (r1 + r2))))
abbrev rm_X0_calledSet : Room := { frames := 2, cells := 0, slots := 0, locals := 41 }
def f_X0_calledSet (σ : MM) : Option (Int32) :=
(f_X0_called σ).bind (fun r1 =>
(f_X6_setOfFirst r1 σ).bind (fun r2 =>
some (r2)))
abbrev rm_X0_strikesOf : Room := { frames := 0, cells := 0, slots := 0, locals := 0 }
def f_X0_strikesOf (v1 : Int32) (σ : MM) : Option (Int32) :=
if v1 = 0 then (
chk (inb (1 : Int32) 5) (
some (σ.1 5 (1 : Int32).toNatClampNeg)))
else (
chk (inb (2 : Int32) 5) (
some (σ.1 5 (2 : Int32).toNatClampNeg)))
abbrev rm_X6_knowTurns : Room := { frames := 5, cells := 0, slots := 0, locals := 118 }
def f_X6_knowTurns (σ : MM) : Option (MM) :=
if (σ.1 0 13) = 0 then (
(f_X0_calledSet σ).bind (fun r1 =>
(f_X0_strikesOf (0 : Int32) σ).bind (fun r2 =>
(f_X0_strikesOf (1 : Int32) σ).bind (fun r3 =>
(f_X5_lookBack 42 16 r1 r2 r3 (0 : Int32) σ).bind (fun σ5 =>
chk (isB (1 : Int32)) (lm (stI σ5 0 13 (1 : Int32)) (fun σ6 =>
some (σ6))))))))
else (
some (σ))
abbrev rm_X6_valueByTurns : Room := { frames := 6, cells := 0, slots := 0, locals := 138 }
def f_X6_valueByTurns (σ : MM) : Option (Int64 × MM) :=
(f_X6_knowTurns σ).bind (fun σ2 =>
(f_X0_calledSet σ2).bind (fun r3 =>
(f_X5_valueOf 42 r3 σ2).bind (fun r4 =>
some ((r4, σ2)))))
abbrev rm_X6_turns : Room := { frames := 7, cells := 0, slots := 0, locals := 158 }
def f_X6_turns (σ : MM) : Option (Int64 × MM) :=
(f_X0_called σ).bind (fun r1 =>
if r1 = 0 then (
(f_X6_refuseLong (-3 : Int32) σ).bind (uc (fun r4 σ5 =>
some ((r4, σ5)))))
else (
(f_X6_valueByTurns σ).bind (uc (fun r2 σ3 =>
some ((r2, σ3))))))
abbrev rm_X6_order : Room := { frames := 6, cells := 0, slots := 0, locals := 138 }
def g_X6_order_49  (v1 : Int32) (v2 : Int32) (v3 : Int32) (σ : MM) : Option ((Int32 × Int32) ⊕ (Int32)) :=
if v1 ≤ v3 then (
some (.inr v2))
else (
(f_X5_strikeFrom 42 v2 σ).bind (fun r6 =>
some (.inl (v2 &&& (((1 : Int32) <<< (r6 &&& 31)) ^^^ (-1 : Int32)), v3 + 1))))
def f_X6_order (v1 : Int32) (σ : MM) : Option (Int32 × MM) :=
(f_X0_called σ).bind (fun r1 =>
if r1 = 0 then (
(f_X6_refuse (-3 : Int32) σ).bind (uc (fun r10 σ11 =>
some ((r10, σ11)))))
else (
if v1 < 0 then (
some (((-9 : Int32), σ)))
else (
(f_X0_strikes σ).bind (fun r2 =>
if v1 < r2 then (
(f_X6_knowTurns σ).bind (fun σ4 =>
(f_X0_calledSet σ4).bind (fun r5 =>
(loopN (fun s => g_X6_order_49 v1 s.1 s.2 σ4) FU (r5, (0 : Int32))).bind (fun o7 =>
(f_X5_strikeFrom 42 o7 σ4).bind (fun r9 =>
some ((r9, σ4)))))))
else (
some (((-9 : Int32), σ)))))))
abbrev rm_X6_put : Room := { frames := 1, cells := 0, slots := 0, locals := 21 }
def f_X6_put (v1 : Int32) (σ : MM) : Option (Int32 × MM) :=
if 0 ≤ v1 then (
if (12 : Int32) ≤ v1 then (
(f_X6_refuse (-6 : Int32) σ).bind (uc (fun r1 σ2 =>
some ((r1, σ2)))))
else (
if (σ.1 0 5) < (6 : Int32) then (
chk (inb (σ.1 0 5) 6) (lm (stI σ 14 (σ.1 0 5).toNatClampNeg v1) (fun σ3 =>
lm (stI σ3 0 5 ((σ3.1 0 5) + (1 : Int32))) (fun σ4 =>
some ((σ4.1 0 5, σ4))))))
else (
(f_X6_refuse (-6 : Int32) σ).bind (uc (fun r5 σ6 =>
some ((r5, σ6)))))))
else (
(f_X6_refuse (-4 : Int32) σ).bind (uc (fun r7 σ8 =>
some ((r7, σ8)))))
abbrev rm_X6_unput : Room := { frames := 0, cells := 0, slots := 0, locals := 0 }
def f_X6_unput (σ : MM) : Option (Int32 × MM) :=
lm (stI σ 0 5 (0 : Int32)) (fun σ1 =>
some ((σ.1 0 5, σ1)))
abbrev rm_X6_rowIsLawful : Room := { frames := 3, cells := 0, slots := 0, locals := 61 }
def g_X6_rowIsLawful_36   (v1 : Int32) (v2 : Int32) (σ : MM) : Option ((Int32 × Int32) ⊕ (Int32)) :=
if (σ.1 0 5) ≤ v2 then (
chk (isB (1 : Int32)) (some (.inr ((1 : Int32)))))
else (
chk (inb v2 6) (
if (v1 &&& ((1 : Int32) <<< ((σ.1 14 v2.toNatClampNeg) &&& 31))) = 0 then (
chk (isB (0 : Int32)) (some (.inr ((0 : Int32)))))
else (
some (.inl (v1 ^^^ ((1 : Int32) <<< ((σ.1 14 v2.toNatClampNeg) &&& 31)), v2 + 1)))))
def f_X6_rowIsLawful (σ : MM) : Option (Int32) :=
(f_X0_called σ).bind (fun r1 =>
if r1 = 0 then (
chk (isB (0 : Int32)) (some ((0 : Int32))))
else (
(f_X0_strikes σ).bind (fun r2 =>
if (σ.1 0 5) = r2 then (
(f_X0_calledSet σ).bind (fun r3 =>
loopN (fun s => g_X6_rowIsLawful_36 s.1 s.2 σ) FU (r3, (0 : Int32))))
else (
chk (isB (0 : Int32)) (some ((0 : Int32)))))))
abbrev rm_X6_lawful : Room := { frames := 4, cells := 0, slots := 0, locals := 84 }
def f_X6_lawful (σ : MM) : Option (Int32 × MM) :=
(f_X0_called σ).bind (fun r1 =>
if r1 = 0 then (
(f_X6_refuse (-3 : Int32) σ).bind (uc (fun r3 σ4 =>
some ((r3, σ4)))))
else (
(f_X6_rowIsLawful σ).bind (fun r2 =>
if r2 = 0 then (
some (((0 : Int32), σ)))
else (
some (((1 : Int32), σ))))))
abbrev rm_X6_slip : Room := { frames := 6, cells := 0, slots := 0, locals := 138 }
def g_X6_slip_28  (v1 : Int32) (v2 : Int32) (v3 : Int32) (σ : MM) : Option ((Int32 × Int32 × MM) ⊕ (Int64 × MM)) :=
if (σ.1 0 5) ≤ v3 then (
if v1 = 0 then (
some (.inr (((-9 : Int64), σ))))
else (
some (.inr (((0 : Int64), σ)))))
else (
chk (inb v3 6) (
(f_X5_valueOf 42 v2 σ).bind (fun r5 =>
(f_X5_valueOf 42 (v2 &&& (((1 : Int32) <<< ((σ.1 14 v3.toNatClampNeg) &&& 31)) ^^^ (-1 : Int32))) σ).bind (fun r6 =>
if (if 0 < r5 - r6 then r5 - r6 else -(r5 - r6)) = (0 : Int64) then (
some (.inl (v2 &&& (((1 : Int32) <<< ((σ.1 14 v3.toNatClampNeg) &&& 31)) ^^^ (-1 : Int32)), v3 + 1, σ)))
else (
if v1 = 0 then (
some (.inr ((v3.toInt64, σ))))
else (
some (.inr ((if 0 < r5 - r6 then r5 - r6 else -(r5 - r6), σ)))))))))
def f_X6_slip (v1 : Int32) (σ : MM) : Option (Int64 × MM) :=
(f_X6_rowIsLawful σ).bind (fun r1 =>
if r1 = 0 then (
(f_X6_refuseLong (-3 : Int32) σ).bind (uc (fun r7 σ8 =>
some ((r7, σ8)))))
else (
(f_X6_knowTurns σ).bind (fun σ3 =>
(f_X0_calledSet σ3).bind (fun r4 =>
loopN (fun s => g_X6_slip_28 v1 s.1 s.2.1 s.2.2) FU (r4, (0 : Int32), σ3)))))
abbrev rm_X6_valueWith : Room := { frames := 5, cells := 0, slots := 0, locals := 118 }
def f_X6_valueWith (q1 : Nat) (v2 : Int32) (v3 : Int32) (v4 : Int32) (σ : MM) : Option (Int64 × MM) :=
(f_X0_needed σ).bind (fun r1 =>
(f_X6_setOfFirst ((r1 + v2) + v3) σ).bind (fun r2 =>
(f_X5_lookBack 46 q1 r2 v2 v3 v4 σ).bind (fun σ4 =>
(f_X5_valueOf 46 r2 σ4).bind (fun r5 =>
some ((r5, σ4))))))
abbrev rm_X6_second : Room := { frames := 7, cells := 0, slots := 0, locals := 158 }
def f_X6_second (σ : MM) : Option (Int64 × MM) :=
(f_X0_called σ).bind (fun r1 =>
if r1 = 0 then (
(f_X6_refuseLong (-3 : Int32) σ).bind (uc (fun r8 σ9 =>
some ((r8, σ9)))))
else (
(f_X0_strikesOf (0 : Int32) σ).bind (fun r2 =>
(f_X0_strikesOf (1 : Int32) σ).bind (fun r3 =>
(f_X6_valueWith 16 r2 r3 (1 : Int32) σ).bind (uc (fun r4 σ5 =>
(f_X6_valueByTurns σ5).bind (uc (fun r6 σ7 =>
some ((r4 - r6, σ7))))))))))
abbrev rm_X6_more : Room := { frames := 7, cells := 0, slots := 0, locals := 158 }
def f_X6_more (v1 : Int32) (σ : MM) : Option (Int64 × MM) :=
(f_X6_isSide v1 σ).bind (fun r1 =>
if r1 = 0 then (
(f_X6_refuseLong (-1 : Int32) σ).bind (uc (fun r21 σ22 =>
some ((r21, σ22)))))
else (
(f_X0_called σ).bind (fun r2 =>
if r2 = 0 then (
(f_X6_refuseLong (-3 : Int32) σ).bind (uc (fun r3 σ4 =>
some ((r3, σ4)))))
else (
if (σ.1 1 4) ≤ r2 then (
(f_X6_refuseLong (-3 : Int32) σ).bind (uc (fun r5 σ6 =>
some ((r5, σ6)))))
else (
(f_X0_strikesOf v1 σ).bind (fun r7 =>
if r7 < (3 : Int32) then (
(if v1 = 0 then (
some ((1 : Int32)))
else (
some ((0 : Int32)))).bind (fun o8 =>
(f_X0_strikesOf (0 : Int32) σ).bind (fun r11 =>
(f_X0_strikesOf (1 : Int32) σ).bind (fun r12 =>
(f_X6_valueWith 16 (r11 + o8) ((r12 + (1 : Int32)) - o8) (0 : Int32) σ).bind (uc (fun r13 σ14 =>
if v1 = 0 then (
(f_X6_valueByTurns σ14).bind (uc (fun r17 σ18 =>
some ((r13 - r17, σ18)))))
else (
(f_X6_valueByTurns σ14).bind (uc (fun r15 σ16 =>
some ((r15 - r13, σ16)))))))))))
else (
(f_X6_refuseLong (-3 : Int32) σ).bind (uc (fun r19 σ20 =>
some ((r19, σ20)))))))))))
abbrev rm_X3_fillValues : Room := { frames := 1, cells := 0, slots := 0, locals := 21 }
def g_X3_fillValues_5  (v1 : Int32) (v2 : Int32) (v3 : Int32) (v4 : Int32) (σ : MM) : Option ((Int32 × Int32 × MM) ⊕ (MM)) :=
if v1 < v4 then (
some (.inr σ))
else (
(if v4 < (v3 * (2 : Int32)) then (
some (v3))
else (
some (v3 * (2 : Int32)))).bind (fun o1 =>
(f_J6_bitCount_0f7a4 v4 σ).bind (fun r4 =>
if r4 = v2 then (
(f_X5_valueOf 42 v4 σ).bind (fun r6 =>
chk (inb v4 4096) (lm (stL σ 49 v4.toNatClampNeg r6) (fun σ7 =>
some (.inl (o1, v4 + 1, σ7))))))
else (
if r4 ≤ v2 then (
some (.inl (o1, v4 + 1, σ)))
else (
chk (inb (v4 ^^^ o1) 4096) (
chk (inb v4 4096) (lm (stL σ 49 v4.toNatClampNeg (σ.2 49 (v4 ^^^ o1).toNatClampNeg)) (fun σ5 =>
some (.inl (o1, v4 + 1, σ5))))))))))
def f_X3_fillValues (v1 : Int32) (v2 : Int32) (σ : MM) : Option (MM) :=
(loopN (fun s => g_X3_fillValues_5 v1 v2 s.1 s.2.1 s.2.2) FU ((1 : Int32), (1 : Int32), σ)).bind (fun o8 =>
some (o8))
abbrev rm_X3_listSets : Room := { frames := 1, cells := 0, slots := 0, locals := 20 }
def g_X3_listSets_5 (q0 : Nat) (v1 : Int32) (v2 : Int32) (v3 : Int32) (v4 : Int32) (σ : MM) : Option ((Int32 × Int32 × MM) ⊕ (Int32 × MM)) :=
if v1 < v4 then (
some (.inr (v3, σ)))
else (
if (220 : Int32) ≤ v3 then (
some (.inr (v3, σ)))
else (
(f_J6_bitCount_0f7a4 v4 σ).bind (fun r1 =>
if r1 = v2 then (
chk (inb v3 220) (lm (stI σ q0 v3.toNatClampNeg v4) (fun σ2 =>
some (.inl (v3 + 1, v4 + 1, σ2)))))
else (
some (.inl (v3, v4 + 1, σ))))))
def f_X3_listSets (q0 : Nat) (v1 : Int32) (v2 : Int32) (σ : MM) : Option (Int32 × MM) :=
(loopN (fun s => g_X3_listSets_5 q0 v1 v2 s.1 s.2.1 s.2.2) FU ((0 : Int32), (0 : Int32), σ)).bind (fun o3 =>
some ((o3.1, o3.2)))
abbrev rm_X3_weighSet : Room := { frames := 0, cells := 0, slots := 0, locals := 0 }
def g_X3_weighSet_19  (v1 : Int32) (v3 : Int32) (v4 : Int64) (v6 : Int32) (σ : MM) : Option ((Int64 × Int32 × MM) ⊕ (Int64 × MM)) :=
if (σ.1 50 7) ≤ v6 then (
some (.inr (v4, σ)))
else (
chk (inb v6 220) (
chk (inb (v3 &&& ((σ.1 52 v6.toNatClampNeg) ^^^ (-1 : Int32))) 4096) (
(if v4 ≤ (σ.2 49 (v3 &&& ((σ.1 52 v6.toNatClampNeg) ^^^ (-1 : Int32))).toNatClampNeg) then (
some (v4))
else (
some (σ.2 49 (v3 &&& ((σ.1 52 v6.toNatClampNeg) ^^^ (-1 : Int32))).toNatClampNeg))).bind (fun o1 =>
chk (inb v6 220) (
if (σ.2 49 (v3 &&& ((σ.1 52 v6.toNatClampNeg) ^^^ (-1 : Int32))).toNatClampNeg) ≤ (σ.2 54 v6.toNatClampNeg) then (
some (.inl (o1, v6 + 1, σ)))
else (
chk (inb v6 220) (lm (stL σ 54 v6.toNatClampNeg (σ.2 49 (v3 &&& ((σ.1 52 v6.toNatClampNeg) ^^^ (-1 : Int32))).toNatClampNeg)) (fun σ4 =>
some (.inl (o1, v6 + 1, σ4))))))))))
def f_X3_weighSet (v1 : Int32) (v2 : Int32) (σ : MM) : Option (MM) :=
chk (inb v1 220) (
(loopN (fun s => g_X3_weighSet_19 v1 (v2 &&& ((σ.1 51 v1.toNatClampNeg) ^^^ (-1 : Int32))) s.1 s.2.1 s.2.2) FU ((10000000000000001 : Int64), (0 : Int32), σ)).bind (fun o5 =>
chk (inb v1 220) (lm (stL o5.2 53 v1.toNatClampNeg o5.1) (fun σ7 =>
some (σ7)))))
abbrev rm_X3_keepThose : Room := { frames := 0, cells := 0, slots := 0, locals := 0 }
def g_X3_keepThose_6 (q0 : Nat) (q1 : Nat) (v2 : Int32) (v3 : Int64) (v5 : Int32) (v6 : Int32) (σ : MM) : Option ((Int32 × Int32 × MM) ⊕ (Int32 × MM)) :=
if v2 ≤ v6 then (
some (.inr (v5, σ)))
else (
chk (inb v6 220) (
if (σ.2 q1 v6.toNatClampNeg) = v3 then (
chk (inb v6 220) (
chk (inb v5 220) (lm (stI σ q0 v5.toNatClampNeg (σ.1 q0 v6.toNatClampNeg)) (fun σ1 =>
some (.inl (v5 + 1, v6 + 1, σ1))))))
else (
some (.inl (v5, v6 + 1, σ)))))
def f_X3_keepThose (q0 : Nat) (q1 : Nat) (v2 : Int32) (v3 : Int64) (σ : MM) : Option (Int32 × MM) :=
(loopN (fun s => g_X3_keepThose_6 q0 q1 v2 v3 s.1 s.2.1 s.2.2) FU ((0 : Int32), (0 : Int32), σ)).bind (fun o2 =>
some ((o2.1, o2.2)))
abbrev rm_X3_weigh : Room := { frames := 3, cells := 0, slots := 0, locals := 61 }
def g_X3_weigh_50  (v2 : Int32) (v3 : Int32) (σ : MM) : Option ((Int32 × MM) ⊕ (MM)) :=
if (σ.1 50 7) ≤ v3 then (
some (.inr σ))
else (
chk (inb v3 220) (lm (stL σ 54 v3.toNatClampNeg (-1 : Int64)) (fun σ13 =>
some (.inl (v3 + 1, σ13)))))
def g_X3_weigh_75  (v2 : Int32) (v3 : Int32) (σ : MM) : Option ((Int32 × MM) ⊕ (MM)) :=
if (σ.1 50 6) ≤ v3 then (
some (.inr σ))
else (
(f_X3_weighSet v3 v2 σ).bind (fun σ17 =>
some (.inl (v3 + 1, σ17))))
def g_X3_weigh_105   (v3 : Int64) (v5 : Int32) (σ : MM) : Option ((Int64 × Int32) ⊕ (Int64)) :=
if (σ.1 50 6) ≤ v5 then (
some (.inr v3))
else (
chk (inb v5 220) (
some (.inl (if (σ.2 53 v5.toNatClampNeg) < v3 then v3 else (σ.2 53 v5.toNatClampNeg), v5 + 1))))
def g_X3_weigh_143  (v3 : Int64) (v5 : Int64) (v7 : Int32) (σ : MM) : Option ((Int64 × Int32) ⊕ (Int64)) :=
if (σ.1 50 7) ≤ v7 then (
some (.inr v5))
else (
chk (inb v7 220) (
some (.inl (if (σ.2 54 v7.toNatClampNeg) < v5 then (σ.2 54 v7.toNatClampNeg) else v5, v7 + 1))))
def f_X3_weigh (σ : MM) : Option (MM) :=
(f_X0_calledSet σ).bind (fun r1 =>
(f_X0_needed σ).bind (fun r2 =>
(f_X3_fillValues r1 r2 σ).bind (fun σ4 =>
(f_X0_strikesOf (0 : Int32) σ4).bind (fun r5 =>
(f_X3_listSets 51 r1 r5 σ4).bind (uc (fun r6 σ7 =>
lm (stI σ7 50 6 r6) (fun σ8 =>
(f_X0_strikesOf (1 : Int32) σ8).bind (fun r9 =>
(f_X3_listSets 52 r1 r9 σ8).bind (uc (fun r10 σ11 =>
lm (stI σ11 50 7 r10) (fun σ12 =>
(loopN (fun s => g_X3_weigh_50 r1 s.1 s.2) FU ((0 : Int32), σ12)).bind (fun o14 =>
(loopN (fun s => g_X3_weigh_75 r1 s.1 s.2) FU ((0 : Int32), o14)).bind (fun o18 =>
chk (inb (0 : Int32) 220) (
(loopN (fun s => g_X3_weigh_105 s.1 s.2 o18) FU (o18.2 53 (0 : Int32).toNatClampNeg, (1 : Int32))).bind (fun o20 =>
chk (inb (0 : Int32) 220) (
(loopN (fun s => g_X3_weigh_143 o20 s.1 s.2 o18) FU (o18.2 54 (0 : Int32).toNatClampNeg, (1 : Int32))).bind (fun o22 =>
(if o20 = o22 then (
(f_X3_keepThose 51 53 (o18.1 50 6) o20 o18).bind (uc (fun r34 σ35 =>
some (r34, σ35))))
else (
some ((0 : Int32), o18))).bind (fun o26 =>
lm (stI o26.2 50 6 o26.1) (fun σ29 =>
if o20 = o22 then (
(f_X3_keepThose 52 54 (σ29.1 50 7) o22 σ29).bind (uc (fun r31 σ32 =>
lm (stI σ32 50 7 r31) (fun σ33 =>
some (σ33)))))
else (
lm (stI σ29 50 7 (0 : Int32)) (fun σ30 =>
some (σ30))))))))))))))))))))))
abbrev rm_X6_knowPaper : Room := { frames := 6, cells := 0, slots := 0, locals := 138 }
def f_X6_knowPaper (σ : MM) : Option (MM) :=
if (σ.1 0 14) = 0 then (
(f_X6_knowTurns σ).bind (fun σ2 =>
(f_X3_weigh σ2).bind (fun σ4 =>
chk (isB (1 : Int32)) (lm (stI σ4 0 14 (1 : Int32)) (fun σ5 =>
some (σ5))))))
else (
some (σ))
abbrev rm_X3_restCount : Room := { frames := 0, cells := 0, slots := 0, locals := 0 }
def f_X3_restCount (σ : MM) : Option (Int32) :=
some ((σ.1 50 6) * (σ.1 50 7))
abbrev rm_X6_rests : Room := { frames := 7, cells := 0, slots := 0, locals := 158 }
def f_X6_rests (σ : MM) : Option (Int32 × MM) :=
(f_X0_called σ).bind (fun r1 =>
if r1 = 0 then (
(f_X6_refuse (-3 : Int32) σ).bind (uc (fun r5 σ6 =>
some ((r5, σ6)))))
else (
(f_X6_knowPaper σ).bind (fun σ3 =>
(f_X3_restCount σ3).bind (fun r4 =>
some ((r4, σ3))))))
abbrev rm_X3_restOfA : Room := { frames := 0, cells := 0, slots := 0, locals := 0 }
def f_X3_restOfA (v1 : Int32) (σ : MM) : Option (Int32) :=
if (σ.1 50 7) = 0 then (
some ((0 : Int32)))
else (
chk (!(decide (σ.1 50 7 = 0))) (
chk (inb (v1 / (σ.1 50 7)) 220) (
some (σ.1 51 (v1 / (σ.1 50 7)).toNatClampNeg))))
abbrev rm_X3_restOfB : Room := { frames := 0, cells := 0, slots := 0, locals := 0 }
def f_X3_restOfB (v1 : Int32) (σ : MM) : Option (Int32) :=
if (σ.1 50 7) = 0 then (
some ((0 : Int32)))
else (
chk (!(decide (σ.1 50 7 = 0))) (
chk (inb (v1 - v1 / (σ.1 50 7) * (σ.1 50 7)) 220) (
some (σ.1 52 (v1 - v1 / (σ.1 50 7) * (σ.1 50 7)).toNatClampNeg))))
abbrev rm_X6_rest : Room := { frames := 7, cells := 0, slots := 0, locals := 158 }
def f_X6_rest (v1 : Int32) (σ : MM) : Option (Int32 × MM) :=
(f_X0_called σ).bind (fun r1 =>
if r1 = 0 then (
(f_X6_refuse (-3 : Int32) σ).bind (uc (fun r7 σ8 =>
some ((r7, σ8)))))
else (
(f_X6_knowPaper σ).bind (fun σ3 =>
if v1 < 0 then (
some (((-9 : Int32), σ3)))
else (
(f_X3_restCount σ3).bind (fun r4 =>
if v1 < r4 then (
(f_X3_restOfA v1 σ3).bind (fun r5 =>
(f_X3_restOfB v1 σ3).bind (fun r6 =>
some ((((4096 : Int32) * r5) + r6, σ3)))))
else (
some (((-9 : Int32), σ3))))))))
abbrev rm_X6_firstOf : Room := { frames := 0, cells := 0, slots := 0, locals := 0 }
def g_X6_firstOf_7  (v1 : Int32) (v2 : Int32) (v3 : Int32) (v4 : Int32) (σ : MM) : Option ((Int32 × Int32 × Int32) ⊕ (Int32)) :=
if v1 ≤ v4 then (
some (.inr v2))
else (
some (.inl (v2 ||| (v3 &&& (-v3)), v3 &&& (v3 - (1 : Int32)), v4 + 1)))
def f_X6_firstOf (v0 : Int32) (v1 : Int32) (σ : MM) : Option (Int32) :=
(loopN (fun s => g_X6_firstOf_7 v1 s.1 s.2.1 s.2.2 σ) FU ((0 : Int32), v0, (0 : Int32))).bind (fun o1 =>
some (o1))
abbrev rm_X6_paper : Room := { frames := 3, cells := 0, slots := 0, locals := 68 }
def f_X6_paper (v1 : Int32) (v2 : Int32) (σ : MM) : Option (Int64 × MM) :=
(f_X0_called σ).bind (fun r1 =>
if r1 = 0 then (
(f_X6_refuseLong (-3 : Int32) σ).bind (uc (fun r17 σ18 =>
some ((r17, σ18)))))
else (
(f_X0_calledSet σ).bind (fun r2 =>
if ((v1 ||| v2) &&& (r2 ^^^ (-1 : Int32))) = 0 then (
(f_J6_bitCount_0f7a4 v1 σ).bind (fun r3 =>
(f_X0_strikesOf (0 : Int32) σ).bind (fun r4 =>
if r3 = r4 then (
(f_J6_bitCount_0f7a4 v2 σ).bind (fun r7 =>
(f_X0_strikesOf (1 : Int32) σ).bind (fun r8 =>
if r7 = r8 then (
(f_X0_needed σ).bind (fun r9 =>
(f_X6_firstOf (r2 &&& ((v1 ||| v2) ^^^ (-1 : Int32))) r9 σ).bind (fun r10 =>
(f_X2_chanceOf 16 r10 σ).bind (uc (fun r11 σ12 =>
some ((r11, σ12)))))))
else (
(f_X6_refuseLong (-3 : Int32) σ).bind (uc (fun r13 σ14 =>
some ((r13, σ14))))))))
else (
(f_X6_refuseLong (-3 : Int32) σ).bind (uc (fun r5 σ6 =>
some ((r5, σ6))))))))
else (
(f_X6_refuseLong (-1 : Int32) σ).bind (uc (fun r15 σ16 =>
some ((r15, σ16))))))))
abbrev rm_X1_endFrom : Room := { frames := 1, cells := 0, slots := 0, locals := 20 }
def f_X1_endFrom (v1 : Int32) (v2 : Int32) (v3 : Int32) (σ : MM) : Option (Int32) :=
(f_J6_bitCount_0f7a4 v2 σ).bind (fun r1 =>
if r1 = (σ.1 55 3) then (
some ((v2 ||| (((σ.1 55 4) - v3) <<< ((12 : Int32) &&& 31))) ||| (((σ.1 55 5) - ((v1 - r1) - v3)) <<< ((14 : Int32) &&& 31))))
else (
if (v1 - r1) = ((σ.1 55 4) + (σ.1 55 5)) then (
(f_X6_setOfFirst (σ.1 55 2) σ).bind (fun r2 =>
(f_X6_setOfFirst v1 σ).bind (fun r3 =>
some (v2 ||| (r2 &&& (r3 ^^^ (-1 : Int32)))))))
else (
chk (inb v2 4096) (
some (((((σ.2 49 v2.toNatClampNeg).toUInt64 >>> (((16 : Int32) * v3).toInt64.toUInt64 &&& Int64.toUInt64 63)).toInt64) &&& (65535 : Int64)).toInt32)))))
abbrev rm_X1_valueOfEnd : Room := { frames := 1, cells := 0, slots := 0, locals := 21 }
def f_X1_valueOfEnd (v1 : Int32) (σ : MM) : Option (Int64) :=
(f_X5_valueOf 42 (v1 &&& (4095 : Int32)) σ).bind (fun r1 =>
some (r1))
abbrev rm_X1_decide : Room := { frames := 2, cells := 0, slots := 0, locals := 47 }
def f_X1_decide (v1 : Int32) (v2 : Int32) (v3 : Int32) (σ : MM) : Option (Int32) :=
(f_J6_bitCount_0f7a4 v2 σ).bind (fun r1 =>
(f_X1_endFrom (v1 + (1 : Int32)) (v2 ||| ((1 : Int32) <<< (v1 &&& 31))) v3 σ).bind (fun r2 =>
(if (σ.1 55 5) ≤ ((v1 - r1) - v3) then (
some (r2))
else (
(f_X1_endFrom (v1 + (1 : Int32)) v2 v3 σ).bind (fun r12 =>
(f_X1_valueOfEnd r12 σ).bind (fun r13 =>
(f_X1_valueOfEnd r2 σ).bind (fun r14 =>
if r14 ≤ r13 then (
some (r2))
else (
some (r12))))))).bind (fun o6 =>
if (σ.1 55 4) ≤ v3 then (
some (o6))
else (
(f_X1_endFrom (v1 + (1 : Int32)) v2 (v3 + (1 : Int32)) σ).bind (fun r9 =>
(f_X1_valueOfEnd r9 σ).bind (fun r10 =>
(f_X1_valueOfEnd o6 σ).bind (fun r11 =>
if r10 ≤ r11 then (
some (o6))
else (
some (r9)))))))))
abbrev rm_X1_decideAll : Room := { frames := 3, cells := 0, slots := 0, locals := 73 }
def g_X1_decideAll_54  (v1 : Int32) (v2 : Int32) (v4 : Int32) (v5 : Int32) (σ : MM) : Option ((Int32 × MM) ⊕ (MM)) :=
if v4 < v5 then (
some (.inr σ))
else (
(f_X1_decide v1 v2 v5 σ).bind (fun r3 =>
chk (inb v2 4096) (
chk (inb v2 4096) (lm (stL σ 49 v2.toNatClampNeg (((σ.2 49 v2.toNatClampNeg) &&& (((65535 : Int64) <<< (((16 : Int32) * v5).toInt64 &&& 63)) ^^^ (-1 : Int64))) ||| (r3.toInt64 <<< (((16 : Int32) * v5).toInt64 &&& 63)))) (fun σ4 =>
some (.inl (v5 + 1, σ4)))))))
def f_X1_decideAll (v1 : Int32) (v2 : Int32) (σ : MM) : Option (MM) :=
(f_J6_bitCount_0f7a4 v2 σ).bind (fun r1 =>
(f_J6_bitCount_0f7a4 v2 σ).bind (fun r2 =>
if (σ.1 55 3) ≤ r2 then (
some (σ))
else (
if (v1 - r1) < ((σ.1 55 4) + (σ.1 55 5)) then (
(loopN (fun s => g_X1_decideAll_54 v1 v2 (if (σ.1 55 4) < (v1 - r1) then (σ.1 55 4) else (v1 - r1)) s.1 s.2) FU (if (0 : Int32) < ((v1 - r1) - (σ.1 55 5)) then ((v1 - r1) - (σ.1 55 5)) else (0 : Int32), σ)).bind (fun o5 =>
some (o5)))
else (
some (σ)))))
abbrev rm_X1_goBack : Room := { frames := 4, cells := 0, slots := 0, locals := 101 }
def g_X1_goBack_47  (v2 : Int32) (v3 : Int32) (σ : MM) : Option ((Int32 × MM) ⊕ (MM)) :=
if ((1 : Int32) <<< (v2 &&& 31)) ≤ v3 then (
some (.inr σ))
else (
(f_X1_decideAll v2 v3 σ).bind (fun σ10 =>
some (.inl (v3 + 1, σ10))))
def g_X1_goBack_41   (v2 : Int32) (σ : MM) : Option ((Int32 × MM) ⊕ (MM)) :=
if v2 < 0 then (
some (.inr σ))
else (
(loopN (fun s => g_X1_goBack_47 v2 s.1 s.2) FU ((0 : Int32), σ)).bind (fun o11 =>
some (.inl (v2 + (-1), o11))))
def f_X1_goBack (σ : MM) : Option (MM) :=
(f_X0_called σ).bind (fun r1 =>
lm (stI σ 55 2 r1) (fun σ2 =>
(f_X0_needed σ2).bind (fun r3 =>
lm (stI σ2 55 3 r3) (fun σ4 =>
(f_X0_strikesOf (0 : Int32) σ4).bind (fun r5 =>
lm (stI σ4 55 4 r5) (fun σ6 =>
(f_X0_strikesOf (1 : Int32) σ6).bind (fun r7 =>
lm (stI σ6 55 5 r7) (fun σ8 =>
(loopN (fun s => g_X1_goBack_41 s.1 s.2) FU ((σ8.1 55 2) - (1 : Int32), σ8)).bind (fun o13 =>
(f_X1_endFrom (0 : Int32) (0 : Int32) (0 : Int32) o13).bind (fun r15 =>
lm (stI o13 55 6 r15) (fun σ16 =>
some (σ16))))))))))))
abbrev rm_X6_knowComing : Room := { frames := 6, cells := 0, slots := 0, locals := 138 }
def f_X6_knowComing (σ : MM) : Option (MM) :=
if (σ.1 0 15) = 0 then (
(f_X6_knowTurns σ).bind (fun σ2 =>
(f_X1_goBack σ2).bind (fun σ4 =>
chk (isB (1 : Int32)) (lm (stI σ4 0 15 (1 : Int32)) (fun σ5 =>
some (σ5))))))
else (
some (σ))
abbrev rm_X1_jury : Room := { frames := 0, cells := 0, slots := 0, locals := 0 }
def f_X1_jury (σ : MM) : Option (Int32) :=
some ((σ.1 55 6) &&& (4095 : Int32))
abbrev rm_X6_coming : Room := { frames := 7, cells := 0, slots := 0, locals := 158 }
def f_X6_coming (σ : MM) : Option (Int64 × MM) :=
(f_X0_called σ).bind (fun r1 =>
if r1 = 0 then (
(f_X6_refuseLong (-3 : Int32) σ).bind (uc (fun r6 σ7 =>
some ((r6, σ7)))))
else (
(f_X6_knowComing σ).bind (fun σ3 =>
(f_X1_jury σ3).bind (fun r4 =>
(f_X5_valueOf 42 r4 σ3).bind (fun r5 =>
some ((r5, σ3)))))))
abbrev rm_X1_keptBack : Room := { frames := 0, cells := 0, slots := 0, locals := 0 }
def f_X1_keptBack (v1 : Int32) (σ : MM) : Option (Int32) :=
if v1 = 0 then (
some (((σ.1 55 6) >>> ((12 : Int32) &&& 31)) &&& (3 : Int32)))
else (
some (((σ.1 55 6) >>> ((14 : Int32) &&& 31)) &&& (3 : Int32)))
abbrev rm_X6_come : Room := { frames := 7, cells := 0, slots := 0, locals := 158 }
def f_X6_come (v1 : Int32) (σ : MM) : Option (Int32 × MM) :=
if v1 < 0 then (
(f_X6_refuse (-2 : Int32) σ).bind (uc (fun r1 σ2 =>
some ((r1, σ2)))))
else (
if v1 ≤ (2 : Int32) then (
(f_X0_called σ).bind (fun r3 =>
if r3 = 0 then (
(f_X6_refuse (-3 : Int32) σ).bind (uc (fun r11 σ12 =>
some ((r11, σ12)))))
else (
(f_X6_knowComing σ).bind (fun σ5 =>
if v1 = 0 then (
(f_X1_jury σ5).bind (fun r10 =>
some ((r10, σ5))))
else (
(if v1 = (1 : Int32) then (
some ((0 : Int32)))
else (
some ((1 : Int32)))).bind (fun o6 =>
(f_X1_keptBack o6 σ5).bind (fun r9 =>
some ((r9, σ5)))))))))
else (
(f_X6_refuse (-2 : Int32) σ).bind (uc (fun r13 σ14 =>
some ((r13, σ14))))))
abbrev rm_X6_ways : Room := { frames := 0, cells := 0, slots := 0, locals := 0 }
def g_X6_ways_16  (v0 : Int32) (v1 : Int32) (v2 : Int64) (v4 : Int32) (σ : MM) : Option ((Int64 × Int32) ⊕ (Int64)) :=
if v1 < v4 then (
some (.inr v2))
else (
chk (!(decide (v4.toInt64 = 0))) (
some (.inl ((v2 * (((v0 - v1) + v4).toInt64)) / v4.toInt64, v4 + 1))))
def f_X6_ways (v0 : Int32) (v1 : Int32) (σ : MM) : Option (Int64) :=
if v1 < 0 then (
some ((0 : Int64)))
else (
if v1 ≤ v0 then (
(loopN (fun s => g_X6_ways_16 v0 v1 s.1 s.2 σ) FU ((1 : Int64), (1 : Int32))).bind (fun o1 =>
some (o1)))
else (
some ((0 : Int64))))
abbrev rm_X0_ofSort : Room := { frames := 0, cells := 0, slots := 0, locals := 0 }
def g_X0_ofSort_4  (v1 : Int32) (v2 : Int32) (v3 : Int32) (σ : MM) : Option ((Int32 × Int32) ⊕ (Int32)) :=
if (σ.1 1 4) ≤ v3 then (
some (.inr v2))
else (
chk (inb v3 12) (
if (σ.1 4 v3.toNatClampNeg) = v1 then (
some (.inl (v2 ||| ((1 : Int32) <<< (v3 &&& 31)), v3 + 1)))
else (
some (.inl (v2, v3 + 1)))))
def f_X0_ofSort (v1 : Int32) (σ : MM) : Option (Int32) :=
(loopN (fun s => g_X0_ofSort_4 v1 s.1 s.2 σ) FU ((0 : Int32), (0 : Int32))).bind (fun o1 =>
some (o1))
abbrev rm_X0_sideAt : Room := { frames := 1, cells := 0, slots := 0, locals := 27 }
def f_X0_sideAt (v1 : Int32) (σ : MM) : Option (Int32) :=
(f_X0_strikesOf (0 : Int32) σ).bind (fun r1 =>
(f_X0_strikesOf (1 : Int32) σ).bind (fun r2 =>
(f_X5_sideAt v1 r1 r2 (0 : Int32) σ).bind (fun r3 =>
some (r3))))
abbrev rm_X6_setsAsStruck : Room := { frames := 3, cells := 0, slots := 0, locals := 61 }
def g_X6_setsAsStruck_24  (v1 : Int32) (v2 : Int32) (v4 : Int32) (v5 : Int32) (v6 : Int32) (σ : MM) : Option ((Int32 × Int32) ⊕ (Int32)) :=
if (σ.1 0 5) ≤ v6 then (
some (.inr v5))
else (
(f_X0_sideAt v6 σ).bind (fun r3 =>
if r3 = 0 then (
chk (inb v6 6) (
if (v4 &&& ((1 : Int32) <<< ((σ.1 14 v6.toNatClampNeg) &&& 31))) = 0 then (
some (.inl (v5, v6 + 1)))
else (
some (.inl (v5 + 1, v6 + 1)))))
else (
some (.inl (v5, v6 + 1)))))
def g_X6_setsAsStruck_83  (v1 : Int32) (v2 : Int32) (v6 : Int32) (v7 : Int64) (v9 : Int32) (σ : MM) : Option ((Int64 × Int32) ⊕ (Int64)) :=
if v2 < v9 then (
some (.inr v7))
else (
(f_X6_ways v6 v9 σ).bind (fun r7 =>
(f_X6_ways (v1 - v6) (v2 - v9) σ).bind (fun r8 =>
some (.inl (v7 + (r7 * r8), v9 + 1)))))
def f_X6_setsAsStruck (v1 : Int32) (v2 : Int32) (v3 : Int32) (σ : MM) : Option (Int64) :=
(f_X0_ofSort v3 σ).bind (fun r1 =>
(f_X0_calledSet σ).bind (fun r2 =>
(loopN (fun s => g_X6_setsAsStruck_24 v1 v2 (r1 &&& r2) s.1 s.2 σ) FU ((0 : Int32), (0 : Int32))).bind (fun o4 =>
(f_J6_bitCount_0f7a4 (r1 &&& r2) σ).bind (fun r6 =>
(loopN (fun s => g_X6_setsAsStruck_83 v1 v2 r6 s.1 s.2 σ) FU ((0 : Int64), o4)).bind (fun o9 =>
some (o9))))))
abbrev rm_X6_seldom : Room := { frames := 4, cells := 0, slots := 0, locals := 90 }
def f_X6_seldom (v1 : Int32) (v2 : Int32) (σ : MM) : Option (Int64 × MM) :=
(f_X6_isSort v1 σ).bind (fun r1 =>
if r1 = 0 then (
(f_X6_refuseLong (-1 : Int32) σ).bind (uc (fun r13 σ14 =>
some ((r13, σ14)))))
else (
if v2 < 0 then (
(f_X6_refuseLong (-2 : Int32) σ).bind (uc (fun r2 σ3 =>
some ((r2, σ3)))))
else (
if v2 ≤ (1 : Int32) then (
(f_X6_rowIsLawful σ).bind (fun r4 =>
if r4 = 0 then (
(f_X6_refuseLong (-3 : Int32) σ).bind (uc (fun r9 σ10 =>
some ((r9, σ10)))))
else (
(f_X0_called σ).bind (fun r5 =>
(f_X0_strikesOf (0 : Int32) σ).bind (fun r6 =>
if v2 = (1 : Int32) then (
(f_X6_ways r5 r6 σ).bind (fun r8 =>
some ((r8, σ))))
else (
(f_X6_setsAsStruck r5 r6 v1 σ).bind (fun r7 =>
some ((r7, σ)))))))))
else (
(f_X6_refuseLong (-2 : Int32) σ).bind (uc (fun r11 σ12 =>
some ((r11, σ12))))))))
abbrev rm_X5_juryAtLast : Room := { frames := 2, cells := 0, slots := 0, locals := 43 }
def g_X5_juryAtLast_7   (v1 : Int32) (v2 : Int32) (σ : MM) : Option ((Int32 × Int32) ⊕ (Int32)) :=
if (σ.1 42 4) ≤ v2 then (
some (.inr v1))
else (
(f_X5_strikeFrom 42 v1 σ).bind (fun r1 =>
some (.inl (v1 &&& (((1 : Int32) <<< (r1 &&& 31)) ^^^ (-1 : Int32)), v2 + 1))))
def f_X5_juryAtLast (σ : MM) : Option (Int32) :=
(loopN (fun s => g_X5_juryAtLast_7 s.1 s.2 σ) FU (σ.1 42 3, (0 : Int32))).bind (fun o2 =>
some (o2))
abbrev rm_X6_finest : Room := { frames := 7, cells := 0, slots := 0, locals := 158 }
def f_X6_finest (σ : MM) : Option (Int32 × MM) :=
(f_X0_called σ).bind (fun r1 =>
if r1 = 0 then (
(f_X6_refuse (-3 : Int32) σ).bind (uc (fun r32 σ33 =>
some ((r32, σ33)))))
else (
(f_X6_knowTurns σ).bind (fun σ3 =>
(f_X5_juryAtLast σ3).bind (fun r4 =>
(f_X2_rightOf r4 σ3).bind (uc (fun r5 σ6 =>
(f_X6_knowPaper σ6).bind (fun σ8 =>
(f_X3_restCount σ8).bind (fun r9 =>
(if r9 ≤ 0 then (
some (r5, (0 : Int32), σ8))
else (
(f_X3_restOfA (0 : Int32) σ8).bind (fun r25 =>
(f_X3_restOfB (0 : Int32) σ8).bind (fun r26 =>
(f_X0_calledSet σ8).bind (fun r27 =>
(f_X0_needed σ8).bind (fun r28 =>
(f_X6_firstOf (r27 &&& ((r25 ||| r26) ^^^ (-1 : Int32))) r28 σ8).bind (fun r29 =>
(f_X2_rightOf r29 σ8).bind (uc (fun r30 σ31 =>
if r30 ≤ r5 then (
some (r5, (0 : Int32), σ31))
else (
some (r30, (1 : Int32), σ31))))))))))).bind (fun o17 =>
(f_X6_knowComing o17.2.2).bind (fun σ21 =>
(f_X1_jury σ21).bind (fun r22 =>
(f_X2_rightOf r22 σ21).bind (uc (fun r23 σ24 =>
if r23 ≤ o17.1 then (
some ((o17.2.1, σ24)))
else (
some (((2 : Int32), σ24))))))))))))))))
abbrev rm_X2_spreadOutAll : Room := { frames := 0, cells := 0, slots := 0, locals := 0 }
def g_X2_spreadOutAll_13 (q1 : Nat) (v2 : Int32) (v3 : Int32) (v4 : Int32) (σ : MM) : Option ((Int32 × MM) ⊕ (MM)) :=
if v3 < v4 then (
some (.inr σ))
else (
chk (inb v3 8) (
chk (inb v4 8) (lm (stL σ (21 + v3.toNatClampNeg) v4.toNatClampNeg (0 : Int64)) (fun σ2 =>
some (.inl (v4 + 1, σ2))))))
def g_X2_spreadOutAll_2 (q1 : Nat) (v2 : Int32) (v3 : Int32) (σ : MM) : Option ((Int32 × MM) ⊕ (MM)) :=
if (σ.1 16 4) < v3 then (
some (.inr σ))
else (
(loopN (fun s => g_X2_spreadOutAll_13 q1 v2 v3 s.1 s.2) FU ((0 : Int32), σ)).bind (fun o3 =>
some (.inl (v3 + 1, o3))))
def g_X2_spreadOutAll_79 (q1 : Nat) (v2 : Int32) (v3 : Int32) (v4 : Int64) (v6 : Int32) (v7 : Int32) (σ : MM) : Option ((Int32 × MM) ⊕ (MM)) :=
if v6 < v7 then (
some (.inr σ))
else (
chk (inb (v6 + (1 : Int32)) 8) (
chk (inb (v7 + (1 : Int32)) 8) (
chk (inb v6 8) (
chk (inb v7 8) (
chk (inb (v7 + (1 : Int32)) 8) (lm (stL σ (21 + (v6 + (1 : Int32)).toNatClampNeg) (v7 + (1 : Int32)).toNatClampNeg ((σ.2 (21 + (v6 + (1 : Int32)).toNatClampNeg) (v7 + (1 : Int32)).toNatClampNeg) + ((σ.2 (21 + v6.toNatClampNeg) v7.toNatClampNeg) * v4))) (fun σ11 =>
chk (inb (v6 + (1 : Int32)) 8) (
chk (inb v7 8) (
chk (inb v6 8) (
chk (inb v7 8) (
chk (inb v7 8) (lm (stL σ11 (21 + (v6 + (1 : Int32)).toNatClampNeg) v7.toNatClampNeg ((σ11.2 (21 + (v6 + (1 : Int32)).toNatClampNeg) v7.toNatClampNeg) + ((σ11.2 (21 + v6.toNatClampNeg) v7.toNatClampNeg) * ((100 : Int64) - v4)))) (fun σ14 =>
some (.inl (v7 + 1, σ14)))))))))))))))
def g_X2_spreadOutAll_71 (q1 : Nat) (v2 : Int32) (v3 : Int32) (v4 : Int64) (v6 : Int32) (σ : MM) : Option ((Int32 × MM) ⊕ (MM)) :=
if v6 < 0 then (
some (.inr σ))
else (
(loopN (fun s => g_X2_spreadOutAll_79 q1 v2 v3 v4 v6 s.1 s.2) FU ((0 : Int32), σ)).bind (fun o15 =>
some (.inl (v6 + (-1), o15))))
def g_X2_spreadOutAll_52 (q1 : Nat) (v2 : Int32) (v3 : Int32) (σ : MM) : Option ((Int32 × MM) ⊕ (MM)) :=
if v2 ≤ v3 then (
some (.inr σ))
else (
chk (inb v3 12) (
(loopN (fun s => g_X2_spreadOutAll_71 q1 v2 v3 ((σ.1 q1 v3.toNatClampNeg).toInt64) s.1 s.2) FU ((σ.1 16 4) - (1 : Int32), σ)).bind (fun o17 =>
some (.inl (v3 + 1, o17)))))
def g_X2_spreadOutAll_168 (q1 : Nat)  (v3 : Int32) (σ : MM) : Option ((Int32 × MM) ⊕ (MM)) :=
if (σ.1 16 4) < v3 then (
some (.inr σ))
else (
chk (inb (σ.1 16 4) 8) (
chk (inb v3 8) (
chk (inb v3 8) (lm (stL σ 19 v3.toNatClampNeg (σ.2 (21 + (σ.1 16 4).toNatClampNeg) v3.toNatClampNeg)) (fun σ22 =>
some (.inl (v3 + 1, σ22)))))))
def f_X2_spreadOutAll (q1 : Nat) (v2 : Int32) (σ : MM) : Option (MM) :=
(loopN (fun s => g_X2_spreadOutAll_2 q1 v2 s.1 s.2) FU ((0 : Int32), σ)).bind (fun o5 =>
chk (inb (0 : Int32) 8) (
chk (inb (0 : Int32) 8) (lm (stL o5 (21 + (0 : Int32).toNatClampNeg) (0 : Int32).toNatClampNeg (1 : Int64)) (fun σ8 =>
(loopN (fun s => g_X2_spreadOutAll_52 q1 v2 s.1 s.2) FU ((0 : Int32), σ8)).bind (fun o19 =>
(loopN (fun s => g_X2_spreadOutAll_168 q1 s.1 s.2) FU ((0 : Int32), o19)).bind (fun o23 =>
some (o23)))))))
abbrev rm_X2_rightOfAll : Room := { frames := 2, cells := 0, slots := 0, locals := 45 }
def f_X2_rightOfAll (v1 : Int32) (σ : MM) : Option (Int64 × MM) :=
(f_X2_spreadOutAll 17 v1 σ).bind (fun σ2 =>
(f_X2_findsForA 16 σ2).bind (fun r3 =>
(f_X2_spreadOutAll 18 v1 σ2).bind (fun σ5 =>
(f_X2_findsForB σ5).bind (fun r6 =>
some (((((σ5.1 16 6).toInt64) * r3) + ((((100 : Int32) - (σ5.1 16 6)).toInt64) * r6), σ5))))))
abbrev rm_X6_lot : Room := { frames := 3, cells := 0, slots := 0, locals := 68 }
def f_X6_lot (v1 : Int32) (σ : MM) : Option (Int64 × MM) :=
if v1 < 0 then (
(f_X6_refuseLong (-2 : Int32) σ).bind (uc (fun r1 σ2 =>
some ((r1, σ2)))))
else (
if v1 ≤ (1 : Int32) then (
(f_X0_needed σ).bind (fun r3 =>
if r3 ≤ (σ.1 1 4) then (
if v1 = (1 : Int32) then (
(f_X6_ways (σ.1 1 4) r3 σ).bind (fun r6 =>
some ((r6, σ))))
else (
(f_X2_rightOfAll (σ.1 1 4) σ).bind (uc (fun r4 σ5 =>
some ((r4, σ5))))))
else (
(f_X6_refuseLong (-3 : Int32) σ).bind (uc (fun r7 σ8 =>
some ((r7, σ8)))))))
else (
(f_X6_refuseLong (-2 : Int32) σ).bind (uc (fun r9 σ10 =>
some ((r9, σ10))))))
abbrev rm_X6_trade : Room := { frames := 1, cells := 0, slots := 0, locals := 23 }
def g_X6_trade_30   (v1 : Int32) (v2 : Int32) (v3 : Int32) (σ : MM) : Option ((Int32 × Int32 × Int32) ⊕ (Int32)) :=
if (42 : Int32) ≤ v3 then (
some (.inr v1))
else (
(f_X0_needed σ).bind (fun r2 =>
if r2 ≤ v2 then (
some (.inr v1))
else (
chk (!(decide ((6 : Int32) = 0))) (
(f_X0_ofSort (v3 - v3 / (6 : Int32) * (6 : Int32)) σ).bind (fun r3 =>
if (r3 &&& (v1 ^^^ (-1 : Int32))) = 0 then (
some (.inl (v1, v2, v3 + 1)))
else (
some (.inl (v1 ||| ((r3 &&& (v1 ^^^ (-1 : Int32))) &&& (-(r3 &&& (v1 ^^^ (-1 : Int32))))), v2 + 1, v3 + 1))))))))
def f_X6_trade (σ : MM) : Option (Int32 × MM) :=
(f_X0_needed σ).bind (fun r1 =>
if r1 ≤ (σ.1 1 4) then (
(loopN (fun s => g_X6_trade_30 s.1 s.2.1 s.2.2 σ) FU ((0 : Int32), (0 : Int32), (0 : Int32))).bind (fun o4 =>
some ((o4, σ))))
else (
(f_X6_refuse (-3 : Int32) σ).bind (uc (fun r6 σ7 =>
some ((r6, σ7))))))
abbrev rm_X2_lean : Room := { frames := 0, cells := 0, slots := 0, locals := 0 }
def f_X2_lean (b : Nat) (v1 : Int32) (v2 : Int32) (v3 : Int32) (σ : MM) : Option (MM) :=
chk (inb v1 12) (lm (stI σ (b + 1) v1.toNatClampNeg v2) (fun σ1 =>
chk (inb v1 12) (lm (stI σ1 (b + 2) v1.toNatClampNeg v3) (fun σ2 =>
some (σ2)))))
abbrev rm_X6_juryOfTwoMinds : Room := { frames := 3, cells := 0, slots := 0, locals := 61 }
def g_X6_juryOfTwoMinds_18  (v2 : Int32) (v1 : Int32) (v3 : Int32) (σ : MM) : Option ((Int32 × Int32) ⊕ (Int32)) :=
if v2 ≤ v3 then (
some (.inr v1))
else (
(f_X0_sideAt v3 σ).bind (fun r3 =>
(if r3 = 0 then (
some ((1 : Int32)))
else (
some ((0 : Int32)))).bind (fun o4 =>
(if o4 = 0 then (
(f_X5_strikeFrom 42 v1 σ).bind (fun r12 =>
some (r12)))
else (
(f_X5_strikeFrom 46 v1 σ).bind (fun r13 =>
some (r13)))).bind (fun o9 =>
some (.inl (v1 &&& (((1 : Int32) <<< (o9 &&& 31)) ^^^ (-1 : Int32)), v3 + 1))))))
def f_X6_juryOfTwoMinds (σ : MM) : Option (Int32) :=
(f_X0_calledSet σ).bind (fun r1 =>
(f_X0_strikes σ).bind (fun r2 =>
(loopN (fun s => g_X6_juryOfTwoMinds_18 r2 s.1 s.2 σ) FU (r1, (0 : Int32))).bind (fun o14 =>
some (o14))))
abbrev rm_X6_wrongly : Room := { frames := 7, cells := 0, slots := 0, locals := 158 }
def g_X6_wrongly_51  (v1 : Int32) (v2 : Int32) (v3 : Int32) (v5 : Int32) (σ : MM) : Option ((Int32 × MM) ⊕ (MM)) :=
if (σ.1 1 4) ≤ v5 then (
some (.inr σ))
else (
chk (inb v5 12) (
if (σ.1 4 v5.toNatClampNeg) = v1 then (
(f_X2_lean 29 v5 v2 v3 σ).bind (fun σ6 =>
some (.inl (v5 + 1, σ6))))
else (
some (.inl (v5 + 1, σ)))))
def f_X6_wrongly (v1 : Int32) (v2 : Int32) (v3 : Int32) (σ : MM) : Option (Int64 × MM) :=
(f_X6_leansRefusal v1 v2 v3 σ).bind (fun r1 =>
if r1 = 0 then (
(f_X0_called σ).bind (fun r2 =>
if r2 = 0 then (
(f_X6_refuseLong (-3 : Int32) σ).bind (uc (fun r19 σ20 =>
some ((r19, σ20)))))
else (
(f_X2_take 29 σ).bind (fun σ4 =>
(loopN (fun s => g_X6_wrongly_51 v1 v2 v3 s.1 s.2) FU ((0 : Int32), σ4)).bind (fun o7 =>
(f_X6_knowTurns o7).bind (fun σ10 =>
(f_X0_strikesOf (0 : Int32) σ10).bind (fun r11 =>
(f_X0_strikesOf (1 : Int32) σ10).bind (fun r12 =>
(f_X6_valueWith 29 r11 r12 (0 : Int32) σ10).bind (uc (fun r13 σ14 =>
(f_X6_juryOfTwoMinds σ14).bind (fun r15 =>
(f_X5_valueOf 42 r15 σ14).bind (fun r16 =>
(f_X6_valueByTurns σ14).bind (uc (fun r17 σ18 =>
some ((r16 - r17, σ18))))))))))))))))
else (
(f_X6_refuseLong r1 σ).bind (uc (fun r21 σ22 =>
some ((r21, σ22))))))
abbrev rm_X6_heldLean : Room := { frames := 1, cells := 0, slots := 0, locals := 23 }
def f_X6_heldLean (v0 : Int32) (σ : MM) : Option (Int32) :=
some (if (0 : Int32) < (if v0 < (100 : Int32) then v0 else (100 : Int32)) then (if v0 < (100 : Int32) then v0 else (100 : Int32)) else (0 : Int32))
abbrev rm_X6_valueLeaning : Room := { frames := 6, cells := 0, slots := 0, locals := 143 }
def f_X6_valueLeaning (v1 : Int32) (v2 : Int32) (σ : MM) : Option (Int64 × MM) :=
chk (inb v1 12) (
(f_X2_take 29 σ).bind (fun σ2 =>
chk (inb (σ.1 4 v1.toNatClampNeg) 6) (
(f_X6_heldLean ((σ2.1 2 (σ.1 4 v1.toNatClampNeg).toNatClampNeg) + v2) σ2).bind (fun r3 =>
chk (inb (σ.1 4 v1.toNatClampNeg) 6) (
(f_X6_heldLean ((σ2.1 3 (σ.1 4 v1.toNatClampNeg).toNatClampNeg) + v2) σ2).bind (fun r4 =>
(f_X2_lean 29 v1 r3 r4 σ2).bind (fun σ6 =>
(f_X0_strikesOf (0 : Int32) σ6).bind (fun r7 =>
(f_X0_strikesOf (1 : Int32) σ6).bind (fun r8 =>
(f_X6_valueWith 29 r7 r8 (0 : Int32) σ6).bind (uc (fun r9 σ10 =>
some ((r9, σ10)))))))))))))
abbrev rm_X6_asked : Room := { frames := 7, cells := 0, slots := 0, locals := 166 }
def f_X6_asked (v1 : Int32) (v2 : Int32) (σ : MM) : Option (Int64 × MM) :=
if v1 < 0 then (
(f_X6_refuseLong (-1 : Int32) σ).bind (uc (fun r1 σ2 =>
some ((r1, σ2)))))
else (
if v1 < (σ.1 1 4) then (
if 0 ≤ v2 then (
if v2 ≤ (50 : Int32) then (
(f_X0_called σ).bind (fun r3 =>
if v1 < r3 then (
(f_X6_valueLeaning v1 v2 σ).bind (uc (fun r4 σ5 =>
(f_X6_valueLeaning v1 (-v2) σ5).bind (uc (fun r6 σ7 =>
(f_X6_valueByTurns σ7).bind (uc (fun r8 σ9 =>
some (((r4 + r6) - ((2 : Int64) * r8), σ9)))))))))
else (
(f_X6_refuseLong (-3 : Int32) σ).bind (uc (fun r10 σ11 =>
some ((r10, σ11)))))))
else (
(f_X6_refuseLong (-6 : Int32) σ).bind (uc (fun r12 σ13 =>
some ((r12, σ13))))))
else (
(f_X6_refuseLong (-4 : Int32) σ).bind (uc (fun r14 σ15 =>
some ((r14, σ15))))))
else (
(f_X6_refuseLong (-1 : Int32) σ).bind (uc (fun r16 σ17 =>
some ((r16, σ17))))))
abbrev rm_X0_copy : Room := { frames := 1, cells := 0, slots := 0, locals := 48 }
def f_X0_copy (b : Nat) (q1 : Nat) (σ : MM) : Option (MM) :=
lm (stC σ (b + 1) (va_cpy (σ.1 (q1 + 1)) (σ.1 (b + 1)) (0 : Int32).toNatClampNeg (0 : Int32).toNatClampNeg (6 : Int32).toNatClampNeg)) (fun σ1 =>
lm (stC σ1 (b + 2) (va_cpy (σ1.1 (q1 + 2)) (σ1.1 (b + 2)) (0 : Int32).toNatClampNeg (0 : Int32).toNatClampNeg (6 : Int32).toNatClampNeg)) (fun σ2 =>
lm (stC σ2 (b + 3) (va_cpy (σ2.1 (q1 + 3)) (σ2.1 (b + 3)) (0 : Int32).toNatClampNeg (0 : Int32).toNatClampNeg (12 : Int32).toNatClampNeg)) (fun σ3 =>
lm (stC σ3 (b + 4) (va_cpy (σ3.1 (q1 + 4)) (σ3.1 (b + 4)) (0 : Int32).toNatClampNeg (0 : Int32).toNatClampNeg (5 : Int32).toNatClampNeg)) (fun σ4 =>
lm (stI σ4 b 4 (σ4.1 q1 4)) (fun σ5 =>
some (σ5))))))
abbrev rm_X6_image : Room := { frames := 2, cells := 0, slots := 0, locals := 69 }
def f_X6_image (σ : MM) : Option (Int32 × MM) :=
(f_X0_copy 6 1 σ).bind (fun σ2 =>
chk (isB (1 : Int32)) (lm (stI σ2 0 2 (1 : Int32)) (fun σ3 =>
some ((σ3.1 1 4, σ3)))))
abbrev rm_X6_restore : Room := { frames := 3, cells := 0, slots := 0, locals := 69 }
def f_X6_restore (σ : MM) : Option (Int32 × MM) :=
if (σ.1 0 2) = 0 then (
(f_X6_refuse (-3 : Int32) σ).bind (uc (fun r5 σ6 =>
some ((r5, σ6)))))
else (
(f_X0_copy 1 6 σ).bind (fun σ2 =>
(f_X6_changed σ2).bind (fun σ4 =>
some ((σ4.1 1 4, σ4)))))
abbrev rm_X6_count : Room := { frames := 2, cells := 0, slots := 0, locals := 41 }
def f_X6_count (v1 : Int32) (σ : MM) : Option (Int32) :=
if v1 < (4 : Int32) then (
if v1 < (11 : Int32) then (
if v1 = (0 : Int32) then (
some (σ.1 1 4))
else (if v1 = (1 : Int32) then (
(f_X0_called σ).bind (fun r1 =>
some (r1)))
else (if v1 = (2 : Int32) then (
some (σ.1 11 2))
else (if v1 = (3 : Int32) then (
some (σ.1 0 5))
else (some ((-9 : Int32)))))))
else (
if (16 : Int32) < v1 then (
if v1 = (0 : Int32) then (
some (σ.1 1 4))
else (if v1 = (1 : Int32) then (
(f_X0_called σ).bind (fun r2 =>
some (r2)))
else (if v1 = (2 : Int32) then (
some (σ.1 11 2))
else (if v1 = (3 : Int32) then (
some (σ.1 0 5))
else (some ((-9 : Int32)))))))
else (
chk (inb (v1 - (10 : Int32)) 7) (
some (σ.1 15 (v1 - (10 : Int32)).toNatClampNeg)))))
else (
if (9 : Int32) < v1 then (
if v1 < (11 : Int32) then (
if v1 = (0 : Int32) then (
some (σ.1 1 4))
else (if v1 = (1 : Int32) then (
(f_X0_called σ).bind (fun r3 =>
some (r3)))
else (if v1 = (2 : Int32) then (
some (σ.1 11 2))
else (if v1 = (3 : Int32) then (
some (σ.1 0 5))
else (some ((-9 : Int32)))))))
else (
if (16 : Int32) < v1 then (
if v1 = (0 : Int32) then (
some (σ.1 1 4))
else (if v1 = (1 : Int32) then (
(f_X0_called σ).bind (fun r4 =>
some (r4)))
else (if v1 = (2 : Int32) then (
some (σ.1 11 2))
else (if v1 = (3 : Int32) then (
some (σ.1 0 5))
else (some ((-9 : Int32)))))))
else (
chk (inb (v1 - (10 : Int32)) 7) (
some (σ.1 15 (v1 - (10 : Int32)).toNatClampNeg)))))
else (
(f_X0_ofSort (v1 - (4 : Int32)) σ).bind (fun r5 =>
(f_J6_bitCount_0f7a4 r5 σ).bind (fun r6 =>
some (r6)))))
