abbrev rm_X7_no : Room := { frames := 0, cells := 0, slots := 0, locals := 0 }
def f_X7_no (v1 : Int32) (σ : MM) : Option (Int32 × MM) :=
chk (inb (-v1) 7) (
chk (inb (-v1) 7) (lm (stI σ 1 (-v1).toNatClampNeg ((σ.1 1 (-v1).toNatClampNeg) + (1 : Int32))) (fun σ1 =>
some ((v1, σ1)))))
abbrev rm_X7_noLong : Room := { frames := 0, cells := 0, slots := 0, locals := 0 }
def f_X7_noLong (v1 : Int32) (σ : MM) : Option (Int64 × MM) :=
chk (inb (-v1) 7) (
chk (inb (-v1) 7) (lm (stI σ 1 (-v1).toNatClampNeg ((σ.1 1 (-v1).toNatClampNeg) + (1 : Int32))) (fun σ1 =>
some ((v1.toInt64 - (4000000000000000000 : Int64), σ1)))))
abbrev rm_X7_isIn : Room := { frames := 0, cells := 0, slots := 0, locals := 0 }
def f_X7_isIn (v0 : Int32) (v1 : Int32) (v2 : Int32) (σ : MM) : Option (Int32) :=
if v0 < v1 then (
chk (isB (0 : Int32)) (some ((0 : Int32))))
else (
if v2 < v0 then (
chk (isB (0 : Int32)) (some ((0 : Int32))))
else (
chk (isB (1 : Int32)) (some ((1 : Int32)))))
abbrev rm_X7_out : Room := { frames := 0, cells := 0, slots := 0, locals := 0 }
def f_X7_out (v0 : Int32) (v1 : Int32) (v2 : Int32) (σ : MM) : Option (Int32) :=
if v1 ≤ v0 then (
if v0 ≤ v2 then (
some ((0 : Int32)))
else (
some ((-6 : Int32))))
else (
some ((-4 : Int32)))
abbrev rm_X7_bits : Room := { frames := 0, cells := 0, slots := 0, locals := 0 }
def g_X7_bits_4  (v0 : Int32) (v1 : Int32) (v2 : Int32) (σ : MM) : Option ((Int32 × Int32) ⊕ (Int32)) :=
if (31 : Int32) ≤ v2 then (
some (.inr v1))
else (
some (.inl (v1 + ((v0 >>> (v2 &&& 31)) &&& (1 : Int32)), v2 + 1)))
def f_X7_bits (v0 : Int32) (σ : MM) : Option (Int32) :=
(loopN (fun s => g_X7_bits_4 v0 s.1 s.2 σ) FU ((0 : Int32), (0 : Int32))).bind (fun o1 =>
some (o1))
abbrev rm_X7_isSort : Room := { frames := 0, cells := 0, slots := 0, locals := 0 }
def f_X7_isSort (v0 : Int32) (σ : MM) : Option (Int32) :=
if v0 < 0 then (
chk (isB (0 : Int32)) (some ((0 : Int32))))
else (
if (6 : Int32) ≤ v0 then (
chk (isB (0 : Int32)) (some ((0 : Int32))))
else (
chk (isB (1 : Int32)) (some ((1 : Int32)))))
abbrev rm_X7_sort : Room := { frames := 1, cells := 0, slots := 0, locals := 21 }
def f_X7_sort (v1 : Int32) (v2 : Int32) (v3 : Int32) (σ : MM) : Option (Int32 × MM) :=
(f_X7_isSort v1 σ).bind (fun r1 =>
if r1 = 0 then (
(f_X7_no (-1 : Int32) σ).bind (uc (fun r9 σ10 =>
some ((r9, σ10)))))
else (
(if v2 < 0 then (
some ((-4 : Int32)))
else (
if 0 ≤ v3 then (
if (100 : Int32) < v2 then (
some ((-6 : Int32)))
else (
if v3 ≤ (100 : Int32) then (
some ((0 : Int32)))
else (
some ((-6 : Int32)))))
else (
some ((-4 : Int32))))).bind (fun o2 =>
if o2 = 0 then (
chk (inb ((2 : Int32) * v1) 12) (lm (stI σ 2 ((2 : Int32) * v1).toNatClampNeg v2) (fun σ5 =>
chk (inb (((2 : Int32) * v1) + (1 : Int32)) 12) (lm (stI σ5 2 (((2 : Int32) * v1) + (1 : Int32)).toNatClampNeg v3) (fun σ6 =>
some (((1 : Int32), σ6)))))))
else (
(f_X7_no o2 σ).bind (uc (fun r7 σ8 =>
some ((r7, σ8))))))))
abbrev rm_X7_person : Room := { frames := 1, cells := 0, slots := 0, locals := 21 }
def f_X7_person (v1 : Int32) (σ : MM) : Option (Int32 × MM) :=
(f_X7_isSort v1 σ).bind (fun r1 =>
if r1 = 0 then (
(f_X7_no (-1 : Int32) σ).bind (uc (fun r6 σ7 =>
some ((r6, σ7)))))
else (
if (σ.1 0 6) = (12 : Int32) then (
(f_X7_no (-6 : Int32) σ).bind (uc (fun r4 σ5 =>
some ((r4, σ5)))))
else (
chk (inb (σ.1 0 6) 13) (lm (stI σ 3 (σ.1 0 6).toNatClampNeg v1) (fun σ2 =>
lm (stI σ2 0 6 ((σ2.1 0 6) + (1 : Int32))) (fun σ3 =>
some (((σ3.1 0 6) - (1 : Int32), σ3))))))))
abbrev rm_X7_takeBack : Room := { frames := 1, cells := 0, slots := 0, locals := 21 }
def f_X7_takeBack (σ : MM) : Option (Int32 × MM) :=
if (σ.1 0 6) = 0 then (
(f_X7_no (-3 : Int32) σ).bind (uc (fun r2 σ3 =>
some ((r2, σ3)))))
else (
lm (stI σ 0 6 ((σ.1 0 6) - (1 : Int32))) (fun σ1 =>
some ((σ1.1 0 6, σ1))))
abbrev rm_X7_set : Room := { frames := 1, cells := 0, slots := 0, locals := 22 }
def f_X7_set (v1 : Int32) (v2 : Int32) (σ : MM) : Option (Int32 × MM) :=
(f_X7_isIn v1 (0 : Int32) (4 : Int32) σ).bind (fun r1 =>
if r1 = 0 then (
(f_X7_no (-2 : Int32) σ).bind (uc (fun r6 σ7 =>
some ((r6, σ7)))))
else (
chk (inb v1 5) (
chk (inb v1 5) (
(f_X7_out v2 (σ.1 5 v1.toNatClampNeg) (σ.1 6 v1.toNatClampNeg) σ).bind (fun r2 =>
if r2 = 0 then (
chk (inb v1 5) (
chk (inb v1 5) (lm (stI σ 4 v1.toNatClampNeg v2) (fun σ3 =>
some ((σ.1 4 v1.toNatClampNeg, σ3))))))
else (
(f_X7_no r2 σ).bind (uc (fun r4 σ5 =>
some ((r4, σ5))))))))))
abbrev rm_X7_needed : Room := { frames := 0, cells := 0, slots := 0, locals := 0 }
def f_X7_needed (σ : MM) : Option (Int32) :=
chk (inb (0 : Int32) 5) (
some (σ.1 4 (0 : Int32).toNatClampNeg))
abbrev rm_X7_calledMany : Room := { frames := 0, cells := 0, slots := 0, locals := 0 }
def f_X7_calledMany (σ : MM) : Option (Int32) :=
chk (inb (0 : Int32) 5) (
chk (inb (1 : Int32) 5) (
chk (inb (2 : Int32) 5) (
some (((σ.1 4 (0 : Int32).toNatClampNeg) + (σ.1 4 (1 : Int32).toNatClampNeg)) + (σ.1 4 (2 : Int32).toNatClampNeg)))))
abbrev rm_X7_isEnough : Room := { frames := 1, cells := 0, slots := 0, locals := 20 }
def f_X7_isEnough (σ : MM) : Option (Int32) :=
(f_X7_calledMany σ).bind (fun r1 =>
if (σ.1 0 6) < r1 then (
chk (isB (0 : Int32)) (some ((0 : Int32))))
else (
chk (isB (1 : Int32)) (some ((1 : Int32)))))
abbrev rm_X7_called : Room := { frames := 1, cells := 0, slots := 0, locals := 20 }
def f_X7_called (σ : MM) : Option (Int32) :=
(f_X7_calledMany σ).bind (fun r1 =>
some (((1 : Int32) <<< (r1 &&& 31)) - (1 : Int32)))
abbrev rm_X7_feed : Room := { frames := 1, cells := 0, slots := 0, locals := 22 }
def g_X7_feed_44  (v1 : Int32) (v2 : Int64) (v5 : Int32) (σ : MM) : Option ((Int32 × MM) ⊕ (MM)) :=
if v1 ≤ v5 then (
some (.inr σ))
else (
chk (inb (σ.1 0 8) 80) (lm (stI σ 7 (σ.1 0 8).toNatClampNeg (((v2 >>> (((8 : Int32) * v5).toInt64 &&& 63)) &&& (255 : Int64)).toInt32)) (fun σ5 =>
lm (stI σ5 0 8 ((σ5.1 0 8) + (1 : Int32))) (fun σ6 =>
some (.inl (v5 + 1, σ6))))))
def f_X7_feed (v1 : Int32) (v2 : Int64) (σ : MM) : Option (Int32 × MM) :=
(f_X7_out v1 (1 : Int32) (8 : Int32) σ).bind (fun r1 =>
(if r1 = 0 then (
if ((σ.1 0 8) + v1) ≤ (80 : Int32) then (
some (r1))
else (
some ((-6 : Int32))))
else (
some (r1))).bind (fun o2 =>
if o2 = 0 then (
(loopN (fun s => g_X7_feed_44 v1 v2 s.1 s.2) FU ((0 : Int32), σ)).bind (fun o7 =>
some ((o7.1 0 8, o7))))
else (
(f_X7_no o2 σ).bind (uc (fun r9 σ10 =>
some ((r9, σ10)))))))
abbrev rm_X7_sign : Room := { frames := 0, cells := 0, slots := 0, locals := 0 }
def f_X7_sign (σ : MM) : Option (Int32) :=
if (σ.1 0 8) ≤ (σ.1 0 9) then (
some ((-1 : Int32)))
else (
chk (inb (σ.1 0 9) 80) (
some (σ.1 7 (σ.1 0 9).toNatClampNeg)))
abbrev rm_X7_takes : Room := { frames := 1, cells := 0, slots := 0, locals := 20 }
def f_X7_takes (v1 : Int32) (σ : MM) : Option (Int32 × MM) :=
(f_X7_sign σ).bind (fun r1 =>
if r1 = v1 then (
lm (stI σ 0 9 ((σ.1 0 9) + (1 : Int32))) (fun σ2 =>
chk (isB (1 : Int32)) (some (((1 : Int32), σ2)))))
else (
chk (isB (0 : Int32)) (some (((0 : Int32), σ)))))
abbrev rm_X7_digit : Room := { frames := 1, cells := 0, slots := 0, locals := 22 }
def f_X7_digit (v1 : Int32) (v2 : Int32) (σ : MM) : Option (Int32 × MM) :=
(f_X7_sign σ).bind (fun r1 =>
(f_X7_isIn (r1 - (48 : Int32)) v1 v2 σ).bind (fun r2 =>
if r2 = 0 then (
some (((-1 : Int32), σ)))
else (
lm (stI σ 0 9 ((σ.1 0 9) + (1 : Int32))) (fun σ3 =>
some ((r1 - (48 : Int32), σ3))))))
abbrev rm_X7_hundredths : Room := { frames := 2, cells := 0, slots := 0, locals := 45 }
def g_X7_hundredths_15  (v1 : Int32) (v2 : Int32) (v3 : Int32) (σ : MM) : Option ((Int32 × Int32 × MM) ⊕ (Int32 × MM)) :=
if (3 : Int32) ≤ v3 then (
some (.inr (v2, σ)))
else (
if v2 ≤ 0 then (
some (.inr (v2, σ)))
else (
(f_X7_sign σ).bind (fun r3 =>
(f_X7_isIn r3 (48 : Int32) (57 : Int32) σ).bind (fun r4 =>
if r4 = 0 then (
some (.inr (v2, σ)))
else (
(f_X7_digit (0 : Int32) (9 : Int32) σ).bind (uc (fun r5 σ6 =>
some (.inl (((10 : Int32) * v2) + r5, v3 + 1, σ6)))))))))
def f_X7_hundredths (σ : MM) : Option (Int32 × MM) :=
(f_X7_digit (0 : Int32) (9 : Int32) σ).bind (uc (fun r1 σ2 =>
(loopN (fun s => g_X7_hundredths_15 (σ.1 0 9) s.1 s.2.1 s.2.2) FU (r1, (1 : Int32), σ2)).bind (fun o7 =>
if (100 : Int32) < o7.1 then (
lm (stI o7.2 0 9 (σ.1 0 9)) (fun σ9 =>
some (((-1 : Int32), σ9))))
else (
some ((o7.1, o7.2))))))
abbrev rm_X7_readsSort : Room := { frames := 3, cells := 0, slots := 0, locals := 68 }
def f_X7_readsSort (σ : MM) : Option (Int32 × MM) :=
(f_X7_digit (0 : Int32) (5 : Int32) σ).bind (uc (fun r1 σ2 =>
if r1 < 0 then (
chk (isB (0 : Int32)) (some (((0 : Int32), σ2))))
else (
(f_X7_takes (58 : Int32) σ2).bind (uc (fun r3 σ4 =>
if r3 = 0 then (
chk (isB (0 : Int32)) (some (((0 : Int32), σ4))))
else (
(f_X7_hundredths σ4).bind (uc (fun r5 σ6 =>
if r5 < 0 then (
chk (isB (0 : Int32)) (some (((0 : Int32), σ6))))
else (
(f_X7_takes (44 : Int32) σ6).bind (uc (fun r7 σ8 =>
if r7 = 0 then (
chk (isB (0 : Int32)) (some (((0 : Int32), σ8))))
else (
(f_X7_hundredths σ8).bind (uc (fun r9 σ10 =>
if r9 < 0 then (
chk (isB (0 : Int32)) (some (((0 : Int32), σ10))))
else (
(f_X7_takes (59 : Int32) σ10).bind (uc (fun r11 σ12 =>
if r11 = 0 then (
chk (isB (0 : Int32)) (some (((0 : Int32), σ12))))
else (
chk (inb ((2 : Int32) * r1) 12) (lm (stI σ12 2 ((2 : Int32) * r1).toNatClampNeg r5) (fun σ13 =>
chk (inb (((2 : Int32) * r1) + (1 : Int32)) 12) (lm (stI σ13 2 (((2 : Int32) * r1) + (1 : Int32)).toNatClampNeg r9) (fun σ14 =>
chk (isB (1 : Int32)) (some (((1 : Int32), σ14)))))))))))))))))))))))))
abbrev rm_X7_readsPeople : Room := { frames := 2, cells := 0, slots := 0, locals := 45 }
def g_X7_readsPeople_5   (v1 : Int32) (σ : MM) : Option ((Int32 × MM) ⊕ (Int32 × MM)) :=
(f_X7_sign σ).bind (fun r1 =>
if r1 = (59 : Int32) then (
if v1 = (σ.1 0 6) then (
if v1 = (12 : Int32) then (
chk (isB (0 : Int32)) (some (.inr (((0 : Int32), σ)))))
else (
(f_X7_digit (0 : Int32) (5 : Int32) σ).bind (uc (fun r7 σ8 =>
if 0 ≤ r7 then (
chk (inb v1 13) (lm (stI σ8 3 v1.toNatClampNeg r7) (fun σ9 =>
some (.inl (v1 + 1, σ9)))))
else (
chk (isB (0 : Int32)) (some (.inr (((0 : Int32), σ8)))))))))
else (
lm (stI σ 0 9 ((σ.1 0 9) + (1 : Int32))) (fun σ5 =>
lm (stI σ5 0 6 v1) (fun σ6 =>
chk (isB (1 : Int32)) (some (.inr (((1 : Int32), σ6))))))))
else (
if v1 = (12 : Int32) then (
chk (isB (0 : Int32)) (some (.inr (((0 : Int32), σ)))))
else (
(f_X7_digit (0 : Int32) (5 : Int32) σ).bind (uc (fun r2 σ3 =>
if 0 ≤ r2 then (
chk (inb v1 13) (lm (stI σ3 3 v1.toNatClampNeg r2) (fun σ4 =>
some (.inl (v1 + 1, σ4)))))
else (
chk (isB (0 : Int32)) (some (.inr (((0 : Int32), σ3))))))))))
def f_X7_readsPeople (σ : MM) : Option (Int32 × MM) :=
loopN (fun s => g_X7_readsPeople_5 s.1 s.2) FU (σ.1 0 6, σ)
abbrev rm_X7_readsNumber : Room := { frames := 3, cells := 0, slots := 0, locals := 68 }
def f_X7_readsNumber (v1 : Int32) (σ : MM) : Option (Int32 × MM) :=
(if v1 = (116 : Int32) then (
(f_X7_hundredths σ).bind (uc (fun r32 σ33 =>
some (r32, σ33))))
else (
if v1 = (110 : Int32) then (
(f_X7_digit (1 : Int32) (7 : Int32) σ).bind (uc (fun r30 σ31 =>
some (r30, σ31))))
else (
if v1 = (120 : Int32) then (
(f_X7_digit (0 : Int32) (3 : Int32) σ).bind (uc (fun r28 σ29 =>
some (r28, σ29))))
else (
(f_X7_digit (0 : Int32) (1 : Int32) σ).bind (uc (fun r26 σ27 =>
some (r26, σ27))))))).bind (fun o9 =>
if 0 ≤ o9.1 then (
(if v1 = (120 : Int32) then (
(f_X7_digit (0 : Int32) (3 : Int32) o9.2).bind (uc (fun r24 σ25 =>
some (r24, σ25))))
else (
some ((0 : Int32), o9.2))).bind (fun o14 =>
if o14.1 < 0 then (
chk (isB (0 : Int32)) (some (((0 : Int32), o14.2))))
else (
(f_X7_takes (59 : Int32) o14.2).bind (uc (fun r17 σ18 =>
if r17 = 0 then (
chk (isB (0 : Int32)) (some (((0 : Int32), σ18))))
else (
(if v1 = (110 : Int32) then (
some ((0 : Int32)))
else (
if v1 = (120 : Int32) then (
some ((1 : Int32)))
else (
if v1 = (104 : Int32) then (
some ((3 : Int32)))
else (
some ((4 : Int32)))))).bind (fun o19 =>
chk (inb o19 5) (lm (stI σ18 4 o19.toNatClampNeg o9.1) (fun σ22 =>
if v1 = (120 : Int32) then (
chk (inb (2 : Int32) 5) (lm (stI σ22 4 (2 : Int32).toNatClampNeg o14.1) (fun σ23 =>
chk (isB (1 : Int32)) (some (((1 : Int32), σ23))))))
else (
chk (isB (1 : Int32)) (some (((1 : Int32), σ22)))))))))))))
else (
chk (isB (0 : Int32)) (some (((0 : Int32), o9.2)))))
abbrev rm_X7_statement : Room := { frames := 4, cells := 0, slots := 0, locals := 91 }
def f_X7_statement (σ : MM) : Option (Int32 × MM) :=
(f_X7_sign σ).bind (fun r1 =>
if r1 = (115 : Int32) then (
lm (stI σ 0 9 ((σ.1 0 9) + (1 : Int32))) (fun σ2 =>
if r1 = (115 : Int32) then (
(f_X7_readsSort σ2).bind (uc (fun r7 σ8 =>
chk (isB r7) (some ((r7, σ8))))))
else (
if r1 = (112 : Int32) then (
(f_X7_readsPeople σ2).bind (uc (fun r5 σ6 =>
chk (isB r5) (some ((r5, σ6))))))
else (
(f_X7_readsNumber r1 σ2).bind (uc (fun r3 σ4 =>
chk (isB r3) (some ((r3, σ4)))))))))
else (
if r1 = (112 : Int32) then (
lm (stI σ 0 9 ((σ.1 0 9) + (1 : Int32))) (fun σ9 =>
if r1 = (115 : Int32) then (
(f_X7_readsSort σ9).bind (uc (fun r14 σ15 =>
chk (isB r14) (some ((r14, σ15))))))
else (
if r1 = (112 : Int32) then (
(f_X7_readsPeople σ9).bind (uc (fun r12 σ13 =>
chk (isB r12) (some ((r12, σ13))))))
else (
(f_X7_readsNumber r1 σ9).bind (uc (fun r10 σ11 =>
chk (isB r10) (some ((r10, σ11)))))))))
else (
if r1 = (110 : Int32) then (
lm (stI σ 0 9 ((σ.1 0 9) + (1 : Int32))) (fun σ16 =>
if r1 = (115 : Int32) then (
(f_X7_readsSort σ16).bind (uc (fun r21 σ22 =>
chk (isB r21) (some ((r21, σ22))))))
else (
if r1 = (112 : Int32) then (
(f_X7_readsPeople σ16).bind (uc (fun r19 σ20 =>
chk (isB r19) (some ((r19, σ20))))))
else (
(f_X7_readsNumber r1 σ16).bind (uc (fun r17 σ18 =>
chk (isB r17) (some ((r17, σ18)))))))))
else (
if r1 = (120 : Int32) then (
lm (stI σ 0 9 ((σ.1 0 9) + (1 : Int32))) (fun σ23 =>
if r1 = (115 : Int32) then (
(f_X7_readsSort σ23).bind (uc (fun r28 σ29 =>
chk (isB r28) (some ((r28, σ29))))))
else (
if r1 = (112 : Int32) then (
(f_X7_readsPeople σ23).bind (uc (fun r26 σ27 =>
chk (isB r26) (some ((r26, σ27))))))
else (
(f_X7_readsNumber r1 σ23).bind (uc (fun r24 σ25 =>
chk (isB r24) (some ((r24, σ25)))))))))
else (
if r1 = (104 : Int32) then (
lm (stI σ 0 9 ((σ.1 0 9) + (1 : Int32))) (fun σ30 =>
if r1 = (115 : Int32) then (
(f_X7_readsSort σ30).bind (uc (fun r35 σ36 =>
chk (isB r35) (some ((r35, σ36))))))
else (
if r1 = (112 : Int32) then (
(f_X7_readsPeople σ30).bind (uc (fun r33 σ34 =>
chk (isB r33) (some ((r33, σ34))))))
else (
(f_X7_readsNumber r1 σ30).bind (uc (fun r31 σ32 =>
chk (isB r31) (some ((r31, σ32)))))))))
else (
if r1 = (116 : Int32) then (
lm (stI σ 0 9 ((σ.1 0 9) + (1 : Int32))) (fun σ37 =>
if r1 = (115 : Int32) then (
(f_X7_readsSort σ37).bind (uc (fun r42 σ43 =>
chk (isB r42) (some ((r42, σ43))))))
else (
if r1 = (112 : Int32) then (
(f_X7_readsPeople σ37).bind (uc (fun r40 σ41 =>
chk (isB r40) (some ((r40, σ41))))))
else (
(f_X7_readsNumber r1 σ37).bind (uc (fun r38 σ39 =>
chk (isB r38) (some ((r38, σ39)))))))))
else (
chk (isB (0 : Int32)) (some (((0 : Int32), σ))))))))))
abbrev rm_X7_court : Room := { frames := 5, cells := 0, slots := 0, locals := 112 }
def g_X7_court_9   (v1 : Int32) (v2 : Int32) (σ : MM) : Option ((Int32 × Int32 × MM) ⊕ (Int32 × Int32 × MM)) :=
if v2 = 0 then (
some (.inr (v1, v2, σ)))
else (
if (σ.1 0 8) ≤ (σ.1 0 9) then (
some (.inr (v1, v2, σ)))
else (
(f_X7_statement σ).bind (uc (fun r2 σ3 =>
if r2 = 0 then (
some (.inl (v1 + (0 : Int32), r2, σ3)))
else (
some (.inl (v1 + (1 : Int32), r2, σ3)))))))
def f_X7_court (σ : MM) : Option (Int32 × MM) :=
lm (stI σ 0 9 (0 : Int32)) (fun σ1 =>
(loopN (fun s => g_X7_court_9 s.1 s.2.1 s.2.2) FU ((0 : Int32), (1 : Int32), σ1)).bind (fun o4 =>
lm (stI o4.2.2 0 8 (0 : Int32)) (fun σ6 =>
if o4.2.1 = 0 then (
some (((-20 : Int32) - (σ6.1 0 9), σ6)))
else (
some ((o4.1, σ6))))))
abbrev rm_X7_holdsTrue : Room := { frames := 0, cells := 0, slots := 0, locals := 0 }
def g_X7_holdsTrue_2   (v1 : Int32) (σ : MM) : Option ((Int32 × MM) ⊕ (MM)) :=
if (σ.1 0 6) ≤ v1 then (
some (.inr σ))
else (
chk (inb v1 13) (
chk (inb ((2 : Int32) * (σ.1 3 v1.toNatClampNeg)) 12) (
chk (inb ((2 : Int32) * v1) 24) (lm (stI σ 8 ((2 : Int32) * v1).toNatClampNeg (σ.1 2 ((2 : Int32) * (σ.1 3 v1.toNatClampNeg)).toNatClampNeg)) (fun σ1 =>
chk (inb v1 13) (
chk (inb (((2 : Int32) * (σ1.1 3 v1.toNatClampNeg)) + (1 : Int32)) 12) (
chk (inb (((2 : Int32) * v1) + (1 : Int32)) 24) (lm (stI σ1 8 (((2 : Int32) * v1) + (1 : Int32)).toNatClampNeg (σ1.1 2 (((2 : Int32) * (σ1.1 3 v1.toNatClampNeg)) + (1 : Int32)).toNatClampNeg)) (fun σ2 =>
some (.inl (v1 + 1, σ2)))))))))))
def f_X7_holdsTrue (σ : MM) : Option (MM) :=
(loopN (fun s => g_X7_holdsTrue_2 s.1 s.2) FU ((0 : Int32), σ)).bind (fun o3 =>
some (o3))
abbrev rm_X7_findFor : Room := { frames := 0, cells := 0, slots := 0, locals := 0 }
def g_X7_findFor_2  (v1 : Int32) (v2 : Int32) (v3 : Int32) (σ : MM) : Option ((Int32 × MM) ⊕ (MM)) :=
if (8 : Int32) ≤ v3 then (
some (.inr σ))
else (
if v3 = 0 then (
chk (inb v3 8) (lm (stL σ 9 v3.toNatClampNeg (1 : Int64)) (fun σ2 =>
some (.inl (v3 + 1, σ2)))))
else (
chk (inb v3 8) (lm (stL σ 9 v3.toNatClampNeg (0 : Int64)) (fun σ1 =>
some (.inl (v3 + 1, σ1))))))
def g_X7_findFor_74  (v1 : Int32) (v2 : Int32) (v3 : Int32) (v4 : Int32) (v5 : Int32) (v6 : Int32) (σ : MM) : Option ((Int32 × MM) ⊕ (MM)) :=
if v6 < 0 then (
some (.inr σ))
else (
chk (inb v6 8) (
if v6 ≤ 0 then (
chk (inb v6 8) (lm (stL σ 9 v6.toNatClampNeg (((σ.2 9 v6.toNatClampNeg) * (((100 : Int32) - v5).toInt64)) + (0 : Int64))) (fun σ5 =>
some (.inl (v6 + (-1), σ5)))))
else (
chk (inb (v6 - (1 : Int32)) 8) (
chk (inb v6 8) (lm (stL σ 9 v6.toNatClampNeg (((σ.2 9 v6.toNatClampNeg) * (((100 : Int32) - v5).toInt64)) + ((σ.2 9 (v6 - (1 : Int32)).toNatClampNeg) * v5.toInt64))) (fun σ6 =>
some (.inl (v6 + (-1), σ6))))))))
def g_X7_findFor_34  (v1 : Int32) (v2 : Int32) (v3 : Int32) (v4 : Int32) (σ : MM) : Option ((Int32 × Int32 × MM) ⊕ (MM)) :=
if (σ.1 0 6) ≤ v4 then (
some (.inr σ))
else (
if ((v1 >>> (v4 &&& 31)) &&& (1 : Int32)) = 0 then (
some (.inl (v3, v4 + 1, σ)))
else (
chk (inb (((2 : Int32) * v4) + v2) 24) (
(loopN (fun s => g_X7_findFor_74 v1 v2 (v3 + 1) v4 (σ.1 8 (((2 : Int32) * v4) + v2).toNatClampNeg) s.1 s.2) FU (v3 + 1, σ)).bind (fun o7 =>
some (.inl (v3 + 1, v4 + 1, o7))))))
def f_X7_findFor (v1 : Int32) (v2 : Int32) (σ : MM) : Option (MM) :=
(loopN (fun s => g_X7_findFor_2 v1 v2 s.1 s.2) FU ((0 : Int32), σ)).bind (fun o3 =>
(loopN (fun s => g_X7_findFor_34 v1 v2 s.1 s.2.1 s.2.2) FU ((0 : Int32), (0 : Int32), o3)).bind (fun o9 =>
some (o9)))
abbrev rm_X7_found : Room := { frames := 1, cells := 0, slots := 0, locals := 26 }
def g_X7_found_49  (v3 : Int32) (v4 : Int32) (v5 : Int64) (v7 : Int32) (σ : MM) : Option ((Int64 × Int32) ⊕ (Int64)) :=
if v4 < v7 then (
some (.inr v5))
else (
(if ((2 : Int32) * v7) ≤ v4 then (
some ((0 : Int32)))
else (
some ((1 : Int32)))).bind (fun o4 =>
if o4 = v3 then (
chk (inb v7 8) (
some (.inl (v5 + (σ.2 9 v7.toNatClampNeg), v7 + 1))))
else (
some (.inl (v5 + (0 : Int64), v7 + 1)))))
def f_X7_found (v1 : Int32) (v2 : Int32) (v3 : Int32) (σ : MM) : Option (Int64 × MM) :=
(f_X7_findFor v1 v2 σ).bind (fun σ2 =>
(f_X7_needed σ2).bind (fun r3 =>
chk (inb (3 : Int32) 5) (
if (σ2.1 4 (3 : Int32).toNatClampNeg) = (1 : Int32) then (
if v3 = 0 then (
chk (inb (0 : Int32) 8) (
some ((σ2.2 9 (0 : Int32).toNatClampNeg, σ2))))
else (
chk (inb r3 8) (
some ((σ2.2 9 r3.toNatClampNeg, σ2)))))
else (
(loopN (fun s => g_X7_found_49 v3 r3 s.1 s.2 σ2) FU ((0 : Int64), (0 : Int32))).bind (fun o7 =>
some ((o7, σ2)))))))
abbrev rm_X7_chanceOf : Room := { frames := 2, cells := 0, slots := 0, locals := 53 }
def f_X7_chanceOf (v1 : Int32) (σ : MM) : Option (Int64 × MM) :=
chk (inb (4 : Int32) 5) (
(f_X7_found v1 (0 : Int32) (1 : Int32) σ).bind (uc (fun r1 σ2 =>
chk (inb (4 : Int32) 5) (
(f_X7_found v1 (1 : Int32) (1 : Int32) σ2).bind (uc (fun r3 σ4 =>
some (((((σ.1 4 (4 : Int32).toNatClampNeg).toInt64) * r1) + ((((100 : Int32) - (σ2.1 4 (4 : Int32).toNatClampNeg)).toInt64) * r3), σ4))))))))
abbrev rm_X7_rightOf : Room := { frames := 2, cells := 0, slots := 0, locals := 53 }
def f_X7_rightOf (v1 : Int32) (σ : MM) : Option (Int64 × MM) :=
chk (inb (4 : Int32) 5) (
(f_X7_found v1 (0 : Int32) (1 : Int32) σ).bind (uc (fun r1 σ2 =>
chk (inb (4 : Int32) 5) (
(f_X7_found v1 (1 : Int32) (0 : Int32) σ2).bind (uc (fun r3 σ4 =>
some (((((σ.1 4 (4 : Int32).toNatClampNeg).toInt64) * r1) + ((((100 : Int32) - (σ2.1 4 (4 : Int32).toNatClampNeg)).toInt64) * r3), σ4))))))))
abbrev rm_X7_notJury : Room := { frames := 1, cells := 0, slots := 0, locals := 22 }
def f_X7_notJury (v1 : Int32) (σ : MM) : Option (Int32) :=
if v1 < 0 then (
some ((-1 : Int32)))
else (
if (v1 >>> ((σ.1 0 6) &&& 31)) = 0 then (
(f_X7_bits v1 σ).bind (fun r1 =>
(f_X7_needed σ).bind (fun r2 =>
if r1 = r2 then (
some ((0 : Int32)))
else (
some ((-3 : Int32))))))
else (
some ((-1 : Int32))))
abbrev rm_X7_chance : Room := { frames := 3, cells := 0, slots := 0, locals := 74 }
def f_X7_chance (v1 : Int32) (σ : MM) : Option (Int64 × MM) :=
(f_X7_notJury v1 σ).bind (fun r1 =>
if r1 = 0 then (
(f_X7_holdsTrue σ).bind (fun σ3 =>
(f_X7_chanceOf v1 σ3).bind (uc (fun r4 σ5 =>
some ((r4, σ5))))))
else (
(f_X7_noLong r1 σ).bind (uc (fun r6 σ7 =>
some ((r6, σ7))))))
abbrev rm_X7_right : Room := { frames := 3, cells := 0, slots := 0, locals := 74 }
def f_X7_right (v1 : Int32) (σ : MM) : Option (Int64 × MM) :=
(f_X7_notJury v1 σ).bind (fun r1 =>
if r1 = 0 then (
(f_X7_holdsTrue σ).bind (fun σ3 =>
(f_X7_rightOf v1 σ3).bind (uc (fun r4 σ5 =>
some ((r4, σ5))))))
else (
(f_X7_noLong r1 σ).bind (uc (fun r6 σ7 =>
some ((r6, σ7))))))
abbrev rm_X7_index : Room := { frames := 0, cells := 0, slots := 0, locals := 0 }
def f_X7_index (v0 : Int32) (v1 : Int32) (v2 : Int32) (v3 : Int32) (σ : MM) : Option (Int32) :=
some (((4096 : Int32) * (((2 : Int32) * (((4 : Int32) * v0) + v1)) + v2)) + v3)
abbrev rm_X7_mover : Room := { frames := 0, cells := 0, slots := 0, locals := 0 }
def f_X7_mover (v0 : Int32) (v1 : Int32) (v2 : Int32) (σ : MM) : Option (Int32) :=
(if v2 = 0 then (
some (v0))
else (
some (v1))).bind (fun o1 =>
if o1 ≤ 0 then (
some ((1 : Int32) - v2))
else (
some (v2)))
abbrev rm_X7_behind : Room := { frames := 1, cells := 0, slots := 0, locals := 23 }
def f_X7_behind (v1 : Int32) (v2 : Int32) (v3 : Int32) (v4 : Int32) (v5 : Int32) (σ : MM) : Option (Int64) :=
(if v3 = 0 then (
some (v1 - (1 : Int32)))
else (
some (v1))).bind (fun o1 =>
(if v3 = 0 then (
some (v2))
else (
some (v2 - (1 : Int32)))).bind (fun o4 =>
(f_X7_index o1 o4 ((1 : Int32) - v3) (v4 &&& (((1 : Int32) <<< (v5 &&& 31)) ^^^ (-1 : Int32))) σ).bind (fun r7 =>
chk (inb r7 131072) (
some (σ.2 11 r7.toNatClampNeg)))))
abbrev rm_X7_valueOf : Room := { frames := 2, cells := 0, slots := 0, locals := 48 }
def g_X7_valueOf_17  (v1 : Int32) (v2 : Int32) (v4 : Int32) (v5 : Int32) (v6 : Int32) (v7 : Int64) (v9 : Int32) (σ : MM) : Option ((Int32 × Int64 × Int32) ⊕ (Int64)) :=
if (12 : Int32) ≤ v9 then (
some (.inr v7))
else (
if ((v4 >>> (v9 &&& 31)) &&& (1 : Int32)) = 0 then (
some (.inl (v6, v7, v9 + 1)))
else (
(f_X7_behind v1 v2 v5 v4 v9 σ).bind (fun r2 =>
if v6 = 0 then (
some (.inl ((1 : Int32), r2, v9 + 1)))
else (
if v5 = 0 then (
if v7 < r2 then (
some (.inl ((1 : Int32), r2, v9 + 1)))
else (
some (.inl (v6, v7, v9 + 1))))
else (
if r2 < v7 then (
some (.inl ((1 : Int32), r2, v9 + 1)))
else (
some (.inl (v6, v7, v9 + 1))))))))
def f_X7_valueOf (v1 : Int32) (v2 : Int32) (v3 : Int32) (v4 : Int32) (σ : MM) : Option (Int64) :=
(f_X7_mover v1 v2 v3 σ).bind (fun r1 =>
(loopN (fun s => g_X7_valueOf_17 v1 v2 v4 r1 s.1 s.2.1 s.2.2 σ) FU ((0 : Int32), (0 : Int64), (0 : Int32))).bind (fun o3 =>
some (o3)))
abbrev rm_X7_findBest : Room := { frames := 3, cells := 0, slots := 0, locals := 79 }
def g_X7_findBest_3  (v1 : Int32) (v2 : Int32) (v3 : Int32) (v4 : Int32) (σ : MM) : Option ((Int32 × MM) ⊕ (MM)) :=
if (4096 : Int32) ≤ v4 then (
some (.inr σ))
else (
(f_X7_bits v4 σ).bind (fun r1 =>
chk (inb v4 4096) (lm (stI σ 12 v4.toNatClampNeg r1) (fun σ2 =>
some (.inl (v4 + 1, σ2))))))
def g_X7_findBest_99  (v1 : Int32) (v2 : Int32) (v3 : Int32) (v4 : Int32) (v5 : Int32) (v6 : Int32) (v7 : Int32) (σ : MM) : Option ((Int32 × MM) ⊕ (MM)) :=
if (2 : Int32) ≤ v7 then (
some (.inr σ))
else (
(f_X7_index v5 (v4 - v5) v7 v6 σ).bind (fun r11 =>
if v4 = 0 then (
(f_X7_chanceOf v6 σ).bind (uc (fun r14 σ15 =>
chk (inb r11 131072) (lm (stL σ15 11 r11.toNatClampNeg r14) (fun σ16 =>
some (.inl (v7 + 1, σ16)))))))
else (
(f_X7_valueOf v5 (v4 - v5) v7 v6 σ).bind (fun r12 =>
chk (inb r11 131072) (lm (stL σ 11 r11.toNatClampNeg r12) (fun σ13 =>
some (.inl (v7 + 1, σ13))))))))
def g_X7_findBest_71  (v1 : Int32) (v2 : Int32) (v3 : Int32) (v4 : Int32) (v5 : Int32) (v6 : Int32) (σ : MM) : Option ((Int32 × MM) ⊕ (MM)) :=
if v6 ≤ 0 then (
some (.inr σ))
else (
chk (inb v6 4096) (
(f_X7_needed σ).bind (fun r5 =>
(if (σ.1 12 v6.toNatClampNeg) = (r5 + v4) then (
(loopN (fun s => g_X7_findBest_99 v1 v2 v3 v4 v5 v6 s.1 s.2) FU ((0 : Int32), σ)).bind (fun o17 =>
some (o17)))
else (
some (σ))).bind (fun o8 =>
some (.inl ((v6 - (1 : Int32)) &&& v1, o8))))))
def g_X7_findBest_43  (v1 : Int32) (v2 : Int32) (v3 : Int32) (v4 : Int32) (v5 : Int32) (σ : MM) : Option ((Int32 × MM) ⊕ (MM)) :=
if v2 < v5 then (
some (.inr σ))
else (
if v4 < v5 then (
some (.inr σ))
else (
if (v4 - v5) ≤ v3 then (
(loopN (fun s => g_X7_findBest_71 v1 v2 v3 v4 v5 s.1 s.2) FU (v1, σ)).bind (fun o19 =>
some (.inl (v5 + 1, o19))))
else (
some (.inl (v5 + 1, σ)))))
def g_X7_findBest_32  (v1 : Int32) (v2 : Int32) (v3 : Int32) (v4 : Int32) (σ : MM) : Option ((Int32 × MM) ⊕ (MM)) :=
if (v2 + v3) < v4 then (
some (.inr σ))
else (
(loopN (fun s => g_X7_findBest_43 v1 v2 v3 v4 s.1 s.2) FU ((0 : Int32), σ)).bind (fun o21 =>
some (.inl (v4 + 1, o21))))
def f_X7_findBest (v1 : Int32) (v2 : Int32) (v3 : Int32) (σ : MM) : Option (MM) :=
(loopN (fun s => g_X7_findBest_3 v1 v2 v3 s.1 s.2) FU ((0 : Int32), σ)).bind (fun o3 =>
(loopN (fun s => g_X7_findBest_32 v1 v2 v3 s.1 s.2) FU ((0 : Int32), o3)).bind (fun o23 =>
some (o23)))
abbrev rm_X7_strikeOf : Room := { frames := 2, cells := 0, slots := 0, locals := 48 }
def g_X7_strikeOf_11  (v1 : Int32) (v2 : Int32) (v3 : Int32) (v4 : Int32) (v5 : Int32) (v6 : Int32) (σ : MM) : Option ((Int32) ⊕ (Int32)) :=
if (12 : Int32) ≤ v6 then (
some (.inr ((-9 : Int32))))
else (
if ((v4 >>> (v6 &&& 31)) &&& (1 : Int32)) = (1 : Int32) then (
(f_X7_behind v1 v2 v5 v4 v6 σ).bind (fun r2 =>
(f_X7_index v1 v2 v3 v4 σ).bind (fun r3 =>
chk (inb r3 131072) (
if r2 = (σ.2 11 r3.toNatClampNeg) then (
some (.inr (v6)))
else (
some (.inl (v6 + 1)))))))
else (
some (.inl (v6 + 1))))
def f_X7_strikeOf (v1 : Int32) (v2 : Int32) (v3 : Int32) (v4 : Int32) (σ : MM) : Option (Int32) :=
(f_X7_mover v1 v2 v3 σ).bind (fun r1 =>
loopN (fun s => g_X7_strikeOf_11 v1 v2 v3 v4 r1 s σ) FU (0 : Int32))
abbrev rm_X7_notLeft : Room := { frames := 1, cells := 0, slots := 0, locals := 22 }
def f_X7_notLeft (v1 : Int32) (v2 : Int32) (v3 : Int32) (σ : MM) : Option (Int32) :=
(f_X7_isIn v3 (0 : Int32) (1 : Int32) σ).bind (fun r1 =>
if r1 = 0 then (
some ((-1 : Int32)))
else (
if v1 < 0 then (
some ((-1 : Int32)))
else (
if (v1 >>> ((σ.1 0 6) &&& 31)) = 0 then (
if 0 ≤ v2 then (
chk (!(decide ((10 : Int32) = 0))) (
if (3 : Int32) < (v2 / (10 : Int32)) then (
some ((-6 : Int32)))
else (
chk (!(decide ((10 : Int32) = 0))) (
if (v2 - v2 / (10 : Int32) * (10 : Int32)) ≤ (3 : Int32) then (
(f_X7_bits v1 σ).bind (fun r2 =>
(f_X7_needed σ).bind (fun r3 =>
chk (!(decide ((10 : Int32) = 0))) (
chk (!(decide ((10 : Int32) = 0))) (
if r2 = ((r3 + (v2 / (10 : Int32))) + (v2 - v2 / (10 : Int32) * (10 : Int32))) then (
some ((0 : Int32)))
else (
some ((-3 : Int32))))))))
else (
some ((-6 : Int32)))))))
else (
some ((-4 : Int32))))
else (
some ((-1 : Int32))))))
abbrev rm_X7_best : Room := { frames := 4, cells := 0, slots := 0, locals := 106 }
def f_X7_best (v1 : Int32) (v2 : Int32) (v3 : Int32) (σ : MM) : Option (Int64 × MM) :=
(f_X7_notLeft v1 v2 v3 σ).bind (fun r1 =>
if r1 = 0 then (
(f_X7_holdsTrue σ).bind (fun σ3 =>
chk (!(decide ((10 : Int32) = 0))) (
chk (!(decide ((10 : Int32) = 0))) (
(f_X7_findBest v1 (v2 / (10 : Int32)) (v2 - v2 / (10 : Int32) * (10 : Int32)) σ3).bind (fun σ5 =>
chk (!(decide ((10 : Int32) = 0))) (
chk (!(decide ((10 : Int32) = 0))) (
(f_X7_index (v2 / (10 : Int32)) (v2 - v2 / (10 : Int32) * (10 : Int32)) v3 v1 σ5).bind (fun r6 =>
chk (inb r6 131072) (
some ((σ5.2 11 r6.toNatClampNeg, σ5)))))))))))
else (
(f_X7_noLong r1 σ).bind (uc (fun r7 σ8 =>
some ((r7, σ8))))))
abbrev rm_X7_strike : Room := { frames := 4, cells := 0, slots := 0, locals := 106 }
def f_X7_strike (v1 : Int32) (v2 : Int32) (v3 : Int32) (σ : MM) : Option (Int32 × MM) :=
(f_X7_notLeft v1 v2 v3 σ).bind (fun r1 =>
if r1 = 0 then (
if v2 = 0 then (
some (((-9 : Int32), σ)))
else (
(f_X7_holdsTrue σ).bind (fun σ3 =>
chk (!(decide ((10 : Int32) = 0))) (
chk (!(decide ((10 : Int32) = 0))) (
(f_X7_findBest v1 (v2 / (10 : Int32)) (v2 - v2 / (10 : Int32) * (10 : Int32)) σ3).bind (fun σ5 =>
chk (!(decide ((10 : Int32) = 0))) (
chk (!(decide ((10 : Int32) = 0))) (
(f_X7_strikeOf (v2 / (10 : Int32)) (v2 - v2 / (10 : Int32) * (10 : Int32)) v3 v1 σ5).bind (fun r6 =>
some ((r6, σ5)))))))))))
else (
(f_X7_no r1 σ).bind (uc (fun r7 σ8 =>
some ((r7, σ8))))))
abbrev rm_X7_turnsOf : Room := { frames := 2, cells := 0, slots := 0, locals := 40 }
def f_X7_turnsOf (σ : MM) : Option (Int64) :=
chk (inb (1 : Int32) 5) (
chk (inb (2 : Int32) 5) (
(f_X7_called σ).bind (fun r1 =>
(f_X7_index (σ.1 4 (1 : Int32).toNatClampNeg) (σ.1 4 (2 : Int32).toNatClampNeg) (0 : Int32) r1 σ).bind (fun r2 =>
chk (inb r2 131072) (
some (σ.2 11 r2.toNatClampNeg))))))
abbrev rm_X7_findTurns : Room := { frames := 4, cells := 0, slots := 0, locals := 106 }
def f_X7_findTurns (σ : MM) : Option (MM) :=
(f_X7_holdsTrue σ).bind (fun σ2 =>
(f_X7_called σ2).bind (fun r3 =>
chk (inb (1 : Int32) 5) (
chk (inb (2 : Int32) 5) (
(f_X7_findBest r3 (σ2.1 4 (1 : Int32).toNatClampNeg) (σ2.1 4 (2 : Int32).toNatClampNeg) σ2).bind (fun σ5 =>
some (σ5))))))
abbrev rm_X7_turns : Room := { frames := 5, cells := 0, slots := 0, locals := 126 }
def f_X7_turns (σ : MM) : Option (Int64 × MM) :=
(f_X7_isEnough σ).bind (fun r1 =>
if r1 = 0 then (
(f_X7_noLong (-3 : Int32) σ).bind (uc (fun r5 σ6 =>
some ((r5, σ6)))))
else (
(f_X7_findTurns σ).bind (fun σ3 =>
(f_X7_turnsOf σ3).bind (fun r4 =>
some ((r4, σ3))))))
abbrev rm_X7_findLine : Room := { frames := 5, cells := 0, slots := 0, locals := 126 }
def g_X7_findLine_33   (v1 : Int32) (v2 : Int32) (v3 : Int32) (σ : MM) : Option ((Int32 × Int32 × Int32 × MM) ⊕ (MM)) :=
if (v1 + v2) ≤ 0 then (
some (.inr σ))
else (
(f_X7_mover v1 v2 v3 σ).bind (fun r6 =>
(f_X7_strikeOf v1 v2 v3 (σ.1 0 17) σ).bind (fun r7 =>
chk (inb (σ.1 0 16) 6) (lm (stI σ 13 (σ.1 0 16).toNatClampNeg r7) (fun σ8 =>
lm (stI σ8 0 16 ((σ8.1 0 16) + (1 : Int32))) (fun σ9 =>
lm (stI σ9 0 17 ((σ9.1 0 17) &&& (((1 : Int32) <<< (r7 &&& 31)) ^^^ (-1 : Int32)))) (fun σ10 =>
if r6 = 0 then (
some (.inl (v1 + (-1), v2, (1 : Int32) - r6, σ10)))
else (
some (.inl (v1, v2 + (-1), (1 : Int32) - r6, σ10))))))))))
def f_X7_findLine (σ : MM) : Option (MM) :=
(f_X7_findTurns σ).bind (fun σ2 =>
lm (stI σ2 0 16 (0 : Int32)) (fun σ3 =>
(f_X7_called σ3).bind (fun r4 =>
lm (stI σ3 0 17 r4) (fun σ5 =>
chk (inb (1 : Int32) 5) (
chk (inb (2 : Int32) 5) (
(loopN (fun s => g_X7_findLine_33 s.1 s.2.1 s.2.2.1 s.2.2.2) FU (σ5.1 4 (1 : Int32).toNatClampNeg, σ5.1 4 (2 : Int32).toNatClampNeg, (0 : Int32), σ5)).bind (fun o11 =>
some (o11))))))))
abbrev rm_X7_order : Room := { frames := 6, cells := 0, slots := 0, locals := 151 }
def f_X7_order (v1 : Int32) (σ : MM) : Option (Int32 × MM) :=
(f_X7_isEnough σ).bind (fun r1 =>
if r1 = 0 then (
(f_X7_no (-3 : Int32) σ).bind (uc (fun r5 σ6 =>
some ((r5, σ6)))))
else (
(f_X7_findLine σ).bind (fun σ3 =>
(f_X7_isIn v1 (0 : Int32) ((σ3.1 0 16) - (1 : Int32)) σ3).bind (fun r4 =>
if r4 = 0 then (
some (((-9 : Int32), σ3)))
else (
chk (inb v1 6) (
some ((σ3.1 13 v1.toNatClampNeg, σ3))))))))
abbrev rm_X7_put : Room := { frames := 1, cells := 0, slots := 0, locals := 22 }
def f_X7_put (v1 : Int32) (σ : MM) : Option (Int32 × MM) :=
(f_X7_out v1 (0 : Int32) (11 : Int32) σ).bind (fun r1 =>
(if r1 = 0 then (
if (σ.1 0 19) = (6 : Int32) then (
some ((-6 : Int32)))
else (
some (r1)))
else (
some (r1))).bind (fun o2 =>
if o2 = 0 then (
chk (inb (σ.1 0 19) 6) (lm (stI σ 14 (σ.1 0 19).toNatClampNeg v1) (fun σ5 =>
lm (stI σ5 0 19 ((σ5.1 0 19) + (1 : Int32))) (fun σ6 =>
some ((σ6.1 0 19, σ6))))))
else (
(f_X7_no o2 σ).bind (uc (fun r7 σ8 =>
some ((r7, σ8)))))))
abbrev rm_X7_unput : Room := { frames := 0, cells := 0, slots := 0, locals := 0 }
def f_X7_unput (σ : MM) : Option (Int32 × MM) :=
lm (stI σ 0 19 (0 : Int32)) (fun σ1 =>
some ((σ.1 0 19, σ1)))
abbrev rm_X7_isLawful : Room := { frames := 2, cells := 0, slots := 0, locals := 40 }
def g_X7_isLawful_7   (v1 : Int32) (v2 : Int32) (σ : MM) : Option ((Int32 × Int32) ⊕ (Int32)) :=
if (σ.1 0 19) ≤ v2 then (
chk (inb (1 : Int32) 5) (
chk (inb (2 : Int32) 5) (
if (σ.1 0 19) = ((σ.1 4 (1 : Int32).toNatClampNeg) + (σ.1 4 (2 : Int32).toNatClampNeg)) then (
chk (isB (1 : Int32)) (some (.inr ((1 : Int32)))))
else (
chk (isB (0 : Int32)) (some (.inr ((0 : Int32))))))))
else (
chk (inb v2 6) (
if ((v1 >>> ((σ.1 14 v2.toNatClampNeg) &&& 31)) &&& (1 : Int32)) = 0 then (
chk (isB (0 : Int32)) (some (.inr ((0 : Int32)))))
else (
chk (inb v2 6) (
some (.inl (v1 &&& (((1 : Int32) <<< ((σ.1 14 v2.toNatClampNeg) &&& 31)) ^^^ (-1 : Int32)), v2 + 1))))))
def f_X7_isLawful (σ : MM) : Option (Int32) :=
(f_X7_called σ).bind (fun r1 =>
loopN (fun s => g_X7_isLawful_7 s.1 s.2 σ) FU (r1, (0 : Int32)))
abbrev rm_X7_lawful : Room := { frames := 3, cells := 0, slots := 0, locals := 62 }
def f_X7_lawful (σ : MM) : Option (Int32 × MM) :=
(f_X7_isEnough σ).bind (fun r1 =>
if r1 = 0 then (
(f_X7_no (-3 : Int32) σ).bind (uc (fun r3 σ4 =>
some ((r3, σ4)))))
else (
(f_X7_isLawful σ).bind (fun r2 =>
if r2 = 0 then (
some (((0 : Int32), σ)))
else (
some (((1 : Int32), σ))))))
abbrev rm_X7_findSlip : Room := { frames := 5, cells := 0, slots := 0, locals := 126 }
def g_X7_findSlip_43   (v1 : Int32) (v2 : Int32) (v3 : Int32) (v4 : Int32) (v5 : Int32) (v6 : Int32) (σ : MM) : Option ((Int32 × Int32 × Int32 × Int32 × Int32 × Int32 × MM) ⊕ (Int32 × MM)) :=
if (σ.1 0 19) ≤ v6 then (
some (.inr (v5, σ)))
else (
(f_X7_mover v2 v3 v4 σ).bind (fun r6 =>
(f_X7_index v2 v3 v4 v1 σ).bind (fun r7 =>
chk (inb r7 131072) (
chk (inb v6 6) (
(if r6 = 0 then (
chk (inb v6 6) (
lm (stI σ 0 20 ((σ.1 0 20) ||| ((1 : Int32) <<< ((σ.1 14 v6.toNatClampNeg) &&& 31)))) (fun σ15 =>
some (v2 + (-1), v3, σ15))))
else (
some (v2, v3 + (-1), σ))).bind (fun o9 =>
(f_X7_index o9.1 o9.2.1 ((1 : Int32) - r6) (v1 &&& (((1 : Int32) <<< ((σ.1 14 v6.toNatClampNeg) &&& 31)) ^^^ (-1 : Int32))) o9.2.2).bind (fun r12 =>
chk (inb r12 131072) (
if v5 = (-9 : Int32) then (
if (o9.2.2.2 11 r12.toNatClampNeg) = (σ.2 11 r7.toNatClampNeg) then (
some (.inl (v1 &&& (((1 : Int32) <<< ((σ.1 14 v6.toNatClampNeg) &&& 31)) ^^^ (-1 : Int32)), o9.1, o9.2.1, (1 : Int32) - r6, v5, v6 + 1, o9.2.2)))
else (
if r6 = 0 then (
lm (stL o9.2.2 0 21 ((σ.2 11 r7.toNatClampNeg) - (o9.2.2.2 11 r12.toNatClampNeg))) (fun σ14 =>
some (.inl (v1 &&& (((1 : Int32) <<< ((σ.1 14 v6.toNatClampNeg) &&& 31)) ^^^ (-1 : Int32)), o9.1, o9.2.1, (1 : Int32) - r6, v6, v6 + 1, σ14))))
else (
lm (stL o9.2.2 0 21 ((o9.2.2.2 11 r12.toNatClampNeg) - (σ.2 11 r7.toNatClampNeg))) (fun σ13 =>
some (.inl (v1 &&& (((1 : Int32) <<< ((σ.1 14 v6.toNatClampNeg) &&& 31)) ^^^ (-1 : Int32)), o9.1, o9.2.1, (1 : Int32) - r6, v6, v6 + 1, σ13))))))
else (
some (.inl (v1 &&& (((1 : Int32) <<< ((σ.1 14 v6.toNatClampNeg) &&& 31)) ^^^ (-1 : Int32)), o9.1, o9.2.1, (1 : Int32) - r6, v5, v6 + 1, o9.2.2)))))))))))
def f_X7_findSlip (σ : MM) : Option (Int32 × MM) :=
(f_X7_findTurns σ).bind (fun σ2 =>
(f_X7_called σ2).bind (fun r3 =>
chk (inb (1 : Int32) 5) (
chk (inb (2 : Int32) 5) (
lm (stL σ2 0 21 (0 : Int64)) (fun σ4 =>
lm (stI σ4 0 20 (0 : Int32)) (fun σ5 =>
(loopN (fun s => g_X7_findSlip_43 s.1 s.2.1 s.2.2.1 s.2.2.2.1 s.2.2.2.2.1 s.2.2.2.2.2.1 s.2.2.2.2.2.2) FU (r3, σ2.1 4 (1 : Int32).toNatClampNeg, σ2.1 4 (2 : Int32).toNatClampNeg, (0 : Int32), (-9 : Int32), (0 : Int32), σ5)).bind (fun o16 =>
some ((o16.1, o16.2)))))))))
abbrev rm_X7_slip : Room := { frames := 6, cells := 0, slots := 0, locals := 157 }
def f_X7_slip (v1 : Int32) (σ : MM) : Option (Int64 × MM) :=
(f_X7_isEnough σ).bind (fun r1 =>
if r1 = 0 then (
(f_X7_noLong (-3 : Int32) σ).bind (uc (fun r2 σ3 =>
some ((r2, σ3)))))
else (
(f_X7_isLawful σ).bind (fun r4 =>
if r4 = 0 then (
(f_X7_noLong (-3 : Int32) σ).bind (uc (fun r7 σ8 =>
some ((r7, σ8)))))
else (
(f_X7_findSlip σ).bind (uc (fun r5 σ6 =>
if v1 = 0 then (
some ((r5.toInt64, σ6)))
else (
some ((σ6.2 0 21, σ6)))))))))
abbrev rm_X7_second : Room := { frames := 5, cells := 0, slots := 0, locals := 126 }
def f_X7_second (σ : MM) : Option (Int64 × MM) :=
(f_X7_isEnough σ).bind (fun r1 =>
if r1 = 0 then (
(f_X7_noLong (-3 : Int32) σ).bind (uc (fun r7 σ8 =>
some ((r7, σ8)))))
else (
(f_X7_findTurns σ).bind (fun σ3 =>
chk (inb (1 : Int32) 5) (
chk (inb (2 : Int32) 5) (
(f_X7_called σ3).bind (fun r4 =>
(f_X7_index (σ3.1 4 (1 : Int32).toNatClampNeg) (σ3.1 4 (2 : Int32).toNatClampNeg) (1 : Int32) r4 σ3).bind (fun r5 =>
chk (inb r5 131072) (
(f_X7_turnsOf σ3).bind (fun r6 =>
some (((σ3.2 11 r5.toNatClampNeg) - r6, σ3)))))))))))
abbrev rm_X7_more : Room := { frames := 5, cells := 0, slots := 0, locals := 126 }
def f_X7_more (v1 : Int32) (σ : MM) : Option (Int64 × MM) :=
(f_X7_isIn v1 (0 : Int32) (1 : Int32) σ).bind (fun r1 =>
if r1 = 0 then (
(f_X7_noLong (-1 : Int32) σ).bind (uc (fun r15 σ16 =>
some ((r15, σ16)))))
else (
(f_X7_calledMany σ).bind (fun r2 =>
if (σ.1 0 6) < (r2 + (1 : Int32)) then (
(f_X7_noLong (-3 : Int32) σ).bind (uc (fun r3 σ4 =>
some ((r3, σ4)))))
else (
chk (inb ((1 : Int32) + v1) 5) (
if (σ.1 4 ((1 : Int32) + v1).toNatClampNeg) = (3 : Int32) then (
(f_X7_noLong (-3 : Int32) σ).bind (uc (fun r13 σ14 =>
some ((r13, σ14)))))
else (
(f_X7_findTurns σ).bind (fun σ6 =>
(f_X7_turnsOf σ6).bind (fun r7 =>
chk (inb ((1 : Int32) + v1) 5) (
chk (inb ((1 : Int32) + v1) 5) (lm (stI σ6 4 ((1 : Int32) + v1).toNatClampNeg ((σ6.1 4 ((1 : Int32) + v1).toNatClampNeg) + (1 : Int32))) (fun σ8 =>
(f_X7_findTurns σ8).bind (fun σ10 =>
(f_X7_turnsOf σ10).bind (fun r11 =>
chk (inb ((1 : Int32) + v1) 5) (
chk (inb ((1 : Int32) + v1) 5) (lm (stI σ10 4 ((1 : Int32) + v1).toNatClampNeg ((σ10.1 4 ((1 : Int32) + v1).toNatClampNeg) - (1 : Int32))) (fun σ12 =>
if v1 = 0 then (
some ((r11 - r7, σ12)))
else (
some ((r7 - r11, σ12)))))))))))))))))))
abbrev rm_X7_juryOf : Room := { frames := 2, cells := 0, slots := 0, locals := 40 }
def g_X7_juryOf_20  (v3 : Int32) (v4 : Int32) (v5 : Int32) (v6 : Int32) (σ : MM) : Option ((Int32 × Int32 × Int32) ⊕ (Int32)) :=
if (12 : Int32) ≤ v6 then (
some (.inr v4))
else (
(f_X7_needed σ).bind (fun r2 =>
if r2 ≤ v5 then (
some (.inr v4))
else (
if ((v3 >>> (v6 &&& 31)) &&& (1 : Int32)) = 0 then (
some (.inl (v4, v5, v6 + 1)))
else (
some (.inl (v4 ||| ((1 : Int32) <<< (v6 &&& 31)), v5 + 1, v6 + 1))))))
def f_X7_juryOf (v1 : Int32) (v2 : Int32) (σ : MM) : Option (Int32) :=
(f_X7_called σ).bind (fun r1 =>
(loopN (fun s => g_X7_juryOf_20 (r1 &&& ((v1 ||| v2) ^^^ (-1 : Int32))) s.1 s.2.1 s.2.2 σ) FU ((0 : Int32), (0 : Int32), (0 : Int32))).bind (fun o3 =>
some (o3)))
abbrev rm_X7_findPaper : Room := { frames := 3, cells := 0, slots := 0, locals := 74 }
def g_X7_findPaper_16   (v1 : Int32) (σ : MM) : Option ((Int32 × MM) ⊕ (MM)) :=
(f_X7_called σ).bind (fun r5 =>
if r5 < v1 then (
some (.inr σ))
else (
(f_X7_bits v1 σ).bind (fun r6 =>
(f_X7_needed σ).bind (fun r7 =>
(if r6 = r7 then (
(f_X7_chanceOf v1 σ).bind (uc (fun r23 σ24 =>
chk (inb v1 4096) (lm (stL σ24 10 v1.toNatClampNeg r23) (fun σ25 =>
some (σ25))))))
else (
some (σ))).bind (fun o11 =>
chk (inb (1 : Int32) 5) (
(if r6 = (o11.1 4 (1 : Int32).toNatClampNeg) then (
chk (inb (o11.1 0 26) 220) (lm (stI o11 15 (o11.1 0 26).toNatClampNeg v1) (fun σ21 =>
lm (stI σ21 0 26 ((σ21.1 0 26) + (1 : Int32))) (fun σ22 =>
some (σ22)))))
else (
some (o11))).bind (fun o16 =>
chk (inb (2 : Int32) 5) (
if r6 = (o16.1 4 (2 : Int32).toNatClampNeg) then (
chk (inb (o16.1 0 27) 220) (lm (stI o16 16 (o16.1 0 27).toNatClampNeg v1) (fun σ19 =>
lm (stI σ19 0 27 ((σ19.1 0 27) + (1 : Int32))) (fun σ20 =>
some (.inl (v1 + 1, σ20))))))
else (
some (.inl (v1 + 1, o16)))))))))))
def g_X7_findPaper_126  (v1 : Int32) (v2 : Int32) (σ : MM) : Option ((Int32 × MM) ⊕ (MM)) :=
if (σ.1 0 27) ≤ v2 then (
some (.inr σ))
else (
chk (inb v1 220) (
chk (inb v2 220) (
(f_X7_juryOf (σ.1 15 v1.toNatClampNeg) (σ.1 16 v2.toNatClampNeg) σ).bind (fun r28 =>
chk (inb r28 4096) (
(if v1 = 0 then (
chk (inb v2 220) (lm (stL σ 17 v2.toNatClampNeg (σ.2 10 r28.toNatClampNeg)) (fun σ36 =>
some (σ36))))
else (
chk (inb v2 220) (
if (σ.2 10 r28.toNatClampNeg) ≤ (σ.2 17 v2.toNatClampNeg) then (
some (σ))
else (
chk (inb v2 220) (lm (stL σ 17 v2.toNatClampNeg (σ.2 10 r28.toNatClampNeg)) (fun σ37 =>
some (σ37))))))).bind (fun o31 =>
if v2 = 0 then (
chk (inb v1 220) (lm (stL o31 18 v1.toNatClampNeg (σ.2 10 r28.toNatClampNeg)) (fun σ34 =>
some (.inl (v2 + 1, σ34)))))
else (
chk (inb v1 220) (
if (o31.2 18 v1.toNatClampNeg) ≤ (σ.2 10 r28.toNatClampNeg) then (
some (.inl (v2 + 1, o31)))
else (
chk (inb v1 220) (lm (stL o31 18 v1.toNatClampNeg (σ.2 10 r28.toNatClampNeg)) (fun σ35 =>
some (.inl (v2 + 1, σ35)))))))))))))
def g_X7_findPaper_116   (v1 : Int32) (σ : MM) : Option ((Int32 × MM) ⊕ (MM)) :=
if (σ.1 0 26) ≤ v1 then (
some (.inr σ))
else (
(loopN (fun s => g_X7_findPaper_126 v1 s.1 s.2) FU ((0 : Int32), σ)).bind (fun o38 =>
some (.inl (v1 + 1, o38))))
def f_X7_findPaper (σ : MM) : Option (MM) :=
(f_X7_holdsTrue σ).bind (fun σ2 =>
lm (stI σ2 0 26 (0 : Int32)) (fun σ3 =>
lm (stI σ3 0 27 (0 : Int32)) (fun σ4 =>
(loopN (fun s => g_X7_findPaper_16 s.1 s.2) FU ((0 : Int32), σ4)).bind (fun o26 =>
(loopN (fun s => g_X7_findPaper_116 s.1 s.2) FU ((0 : Int32), o26)).bind (fun o40 =>
some (o40))))))
abbrev rm_X7_isRest : Room := { frames := 3, cells := 0, slots := 0, locals := 66 }
def f_X7_isRest (v1 : Int32) (v2 : Int32) (σ : MM) : Option (Int32) :=
chk (inb v1 220) (
chk (inb v2 220) (
(f_X7_juryOf (σ.1 15 v1.toNatClampNeg) (σ.1 16 v2.toNatClampNeg) σ).bind (fun r1 =>
chk (inb r1 4096) (
chk (inb v2 220) (
if (σ.2 10 r1.toNatClampNeg) = (σ.2 17 v2.toNatClampNeg) then (
chk (inb v1 220) (
if (σ.2 10 r1.toNatClampNeg) = (σ.2 18 v1.toNatClampNeg) then (
chk (isB (1 : Int32)) (some ((1 : Int32))))
else (
chk (isB (0 : Int32)) (some ((0 : Int32))))))
else (
chk (isB (0 : Int32)) (some ((0 : Int32)))))))))
abbrev rm_X7_restOf : Room := { frames := 4, cells := 0, slots := 0, locals := 98 }
def g_X7_restOf_25  (v1 : Int32) (v3 : Int32) (v2 : Int32) (v4 : Int32) (σ : MM) : Option ((Int32 × Int32 × MM) ⊕ (Int32 × MM)) :=
if (σ.1 0 27) ≤ v4 then (
some (.inr (v2, σ)))
else (
(f_X7_isRest v3 v4 σ).bind (fun r4 =>
if r4 = 0 then (
some (.inl (v2, v4 + 1, σ)))
else (
(if (σ.1 0 28) = v1 then (
chk (inb v3 220) (
chk (inb v4 220) (
some (((4096 : Int32) * (σ.1 15 v3.toNatClampNeg)) + (σ.1 16 v4.toNatClampNeg)))))
else (
some (v2))).bind (fun o5 =>
lm (stI σ 0 28 ((σ.1 0 28) + (1 : Int32))) (fun σ8 =>
some (.inl (o5, v4 + 1, σ8)))))))
def g_X7_restOf_14  (v1 : Int32) (v2 : Int32) (v3 : Int32) (σ : MM) : Option ((Int32 × Int32 × MM) ⊕ (Int32 × MM)) :=
if (σ.1 0 26) ≤ v3 then (
some (.inr (v2, σ)))
else (
(loopN (fun s => g_X7_restOf_25 v1 v3 s.1 s.2.1 s.2.2) FU (v2, (0 : Int32), σ)).bind (fun o9 =>
some (.inl (o9.1, v3 + 1, o9.2))))
def f_X7_restOf (v1 : Int32) (σ : MM) : Option (Int32 × MM) :=
(f_X7_findPaper σ).bind (fun σ2 =>
lm (stI σ2 0 28 (0 : Int32)) (fun σ3 =>
(loopN (fun s => g_X7_restOf_14 v1 s.1 s.2.1 s.2.2) FU ((-9 : Int32), (0 : Int32), σ3)).bind (fun o11 =>
some ((o11.1, o11.2)))))
abbrev rm_X7_rests : Room := { frames := 5, cells := 0, slots := 0, locals := 122 }
def f_X7_rests (σ : MM) : Option (Int32 × MM) :=
(f_X7_isEnough σ).bind (fun r1 =>
if r1 = 0 then (
(f_X7_no (-3 : Int32) σ).bind (uc (fun r4 σ5 =>
some ((r4, σ5)))))
else (
(f_X7_restOf (-1 : Int32) σ).bind (uc (fun r2 σ3 =>
if r2 = (-9 : Int32) then (
some ((σ3.1 0 28, σ3)))
else (
some (((0 : Int32), σ3)))))))
abbrev rm_X7_rest : Room := { frames := 5, cells := 0, slots := 0, locals := 122 }
def f_X7_rest (v1 : Int32) (σ : MM) : Option (Int32 × MM) :=
(f_X7_isEnough σ).bind (fun r1 =>
if r1 = 0 then (
(f_X7_no (-3 : Int32) σ).bind (uc (fun r4 σ5 =>
some ((r4, σ5)))))
else (
(f_X7_restOf v1 σ).bind (uc (fun r2 σ3 =>
some ((r2, σ3))))))
abbrev rm_X7_paper : Room := { frames := 3, cells := 0, slots := 0, locals := 74 }
def f_X7_paper (v1 : Int32) (v2 : Int32) (σ : MM) : Option (Int64 × MM) :=
(f_X7_isEnough σ).bind (fun r1 =>
if r1 = 0 then (
(f_X7_noLong (-3 : Int32) σ).bind (uc (fun r23 σ24 =>
some ((r23, σ24)))))
else (
if v1 < 0 then (
(f_X7_noLong (-1 : Int32) σ).bind (uc (fun r2 σ3 =>
some ((r2, σ3)))))
else (
if v2 < 0 then (
(f_X7_noLong (-1 : Int32) σ).bind (uc (fun r4 σ5 =>
some ((r4, σ5)))))
else (
(f_X7_called σ).bind (fun r6 =>
if (v1 &&& (r6 ^^^ (-1 : Int32))) = 0 then (
(f_X7_called σ).bind (fun r9 =>
if (v2 &&& (r9 ^^^ (-1 : Int32))) = 0 then (
(f_X7_bits v1 σ).bind (fun r10 =>
chk (inb (1 : Int32) 5) (
if r10 = (σ.1 4 (1 : Int32).toNatClampNeg) then (
(f_X7_bits v2 σ).bind (fun r13 =>
chk (inb (2 : Int32) 5) (
if r13 = (σ.1 4 (2 : Int32).toNatClampNeg) then (
(f_X7_holdsTrue σ).bind (fun σ15 =>
(f_X7_juryOf v1 v2 σ15).bind (fun r16 =>
(f_X7_chanceOf r16 σ15).bind (uc (fun r17 σ18 =>
some ((r17, σ18)))))))
else (
(f_X7_noLong (-3 : Int32) σ).bind (uc (fun r19 σ20 =>
some ((r19, σ20))))))))
else (
(f_X7_noLong (-3 : Int32) σ).bind (uc (fun r11 σ12 =>
some ((r11, σ12))))))))
else (
(f_X7_noLong (-1 : Int32) σ).bind (uc (fun r21 σ22 =>
some ((r21, σ22)))))))
else (
(f_X7_noLong (-1 : Int32) σ).bind (uc (fun r7 σ8 =>
some ((r7, σ8))))))))))
abbrev rm_X7_place : Room := { frames := 0, cells := 0, slots := 0, locals := 0 }
def f_X7_place (v1 : Int32) (v2 : Int32) (v3 : Int32) (σ : MM) : Option (Int32) :=
some (((4096 : Int32) * (((4 : Int32) * v1) + v2)) + v3)
abbrev rm_X7_leftOfB : Room := { frames := 1, cells := 0, slots := 0, locals := 22 }
def f_X7_leftOfB (v1 : Int32) (v2 : Int32) (v3 : Int32) (σ : MM) : Option (Int32) :=
chk (inb (1 : Int32) 5) (
chk (inb (2 : Int32) 5) (
(f_X7_bits v3 σ).bind (fun r1 =>
some ((((σ.1 4 (1 : Int32).toNatClampNeg) + (σ.1 4 (2 : Int32).toNatClampNeg)) - (v1 - r1)) - v2))))
abbrev rm_X7_ends : Room := { frames := 1, cells := 0, slots := 0, locals := 22 }
def f_X7_ends (v1 : Int32) (v2 : Int32) (σ : MM) : Option (Int32) :=
(f_X7_needed σ).bind (fun r1 =>
(f_X7_bits v2 σ).bind (fun r2 =>
if (r1 - r2) = 0 then (
chk (isB (1 : Int32)) (some ((1 : Int32))))
else (
(f_X7_calledMany σ).bind (fun r3 =>
if (r1 - r2) = (r3 - v1) then (
chk (isB (1 : Int32)) (some ((1 : Int32))))
else (
chk (isB (0 : Int32)) (some ((0 : Int32))))))))
abbrev rm_X7_seatedAll : Room := { frames := 2, cells := 0, slots := 0, locals := 40 }
def f_X7_seatedAll (v1 : Int32) (v2 : Int32) (σ : MM) : Option (Int32) :=
(f_X7_needed σ).bind (fun r1 =>
(f_X7_bits v2 σ).bind (fun r2 =>
if r1 = r2 then (
some (v2))
else (
(f_X7_called σ).bind (fun r3 =>
some (v2 ||| (r3 &&& ((((1 : Int32) <<< (v1 &&& 31)) - (1 : Int32)) ^^^ (-1 : Int32))))))))
abbrev rm_X7_strikesB : Room := { frames := 2, cells := 0, slots := 0, locals := 45 }
def f_X7_strikesB (v1 : Int32) (v2 : Int32) (v3 : Int32) (σ : MM) : Option (Int32) :=
(f_X7_leftOfB v1 v2 v3 σ).bind (fun r1 =>
if r1 ≤ 0 then (
chk (isB (0 : Int32)) (some ((0 : Int32))))
else (
(f_X7_place (v1 + (1 : Int32)) v2 v3 σ).bind (fun r2 =>
chk (inb r2 212992) (
(f_X7_place (v1 + (1 : Int32)) v2 (v3 ||| ((1 : Int32) <<< (v1 &&& 31))) σ).bind (fun r3 =>
chk (inb r3 212992) (
if (σ.2 19 r3.toNatClampNeg) ≤ (σ.2 19 r2.toNatClampNeg) then (
chk (isB (0 : Int32)) (some ((0 : Int32))))
else (
chk (isB (1 : Int32)) (some ((1 : Int32))))))))))
abbrev rm_X7_notByA : Room := { frames := 3, cells := 0, slots := 0, locals := 68 }
def f_X7_notByA (v1 : Int32) (v2 : Int32) (v3 : Int32) (σ : MM) : Option (Int64) :=
(f_X7_strikesB v1 v2 v3 σ).bind (fun r1 =>
(if r1 = 0 then (
some (v3 ||| ((1 : Int32) <<< (v1 &&& 31))))
else (
some (v3))).bind (fun o2 =>
(f_X7_place (v1 + (1 : Int32)) v2 o2 σ).bind (fun r5 =>
chk (inb r5 212992) (
some (σ.2 19 r5.toNatClampNeg)))))
abbrev rm_X7_strikesA : Room := { frames := 4, cells := 0, slots := 0, locals := 91 }
def f_X7_strikesA (v1 : Int32) (v2 : Int32) (v3 : Int32) (σ : MM) : Option (Int32) :=
if v2 ≤ 0 then (
chk (isB (0 : Int32)) (some ((0 : Int32))))
else (
(f_X7_place (v1 + (1 : Int32)) (v2 - (1 : Int32)) v3 σ).bind (fun r1 =>
chk (inb r1 212992) (
(f_X7_notByA v1 v2 v3 σ).bind (fun r2 =>
if (σ.2 19 r1.toNatClampNeg) ≤ r2 then (
chk (isB (0 : Int32)) (some ((0 : Int32))))
else (
chk (isB (1 : Int32)) (some ((1 : Int32))))))))
abbrev rm_X7_findComing : Room := { frames := 5, cells := 0, slots := 0, locals := 114 }
def g_X7_findComing_56  (v1 : Int32) (v2 : Int32) (v4 : Int32) (σ : MM) : Option ((Int32 × MM) ⊕ (MM)) :=
chk (inb (1 : Int32) 5) (
if (σ.1 4 (1 : Int32).toNatClampNeg) < v4 then (
some (.inr σ))
else (
(f_X7_leftOfB v1 v4 v2 σ).bind (fun r8 =>
chk (inb (2 : Int32) 5) (
(f_X7_isIn r8 (0 : Int32) (σ.1 4 (2 : Int32).toNatClampNeg) σ).bind (fun r9 =>
if r9 = 0 then (
some (.inl (v4 + 1, σ)))
else (
(f_X7_place v1 v4 v2 σ).bind (fun r10 =>
(f_X7_ends v1 v2 σ).bind (fun r11 =>
if r11 = 0 then (
(f_X7_strikesA v1 v4 v2 σ).bind (fun r12 =>
if r12 = 0 then (
(f_X7_notByA v1 v4 v2 σ).bind (fun r13 =>
chk (inb r10 212992) (lm (stL σ 19 r10.toNatClampNeg r13) (fun σ14 =>
some (.inl (v4 + 1, σ14))))))
else (
(f_X7_place (v1 + (1 : Int32)) (v4 - (1 : Int32)) v2 σ).bind (fun r15 =>
chk (inb r15 212992) (
chk (inb r10 212992) (lm (stL σ 19 r10.toNatClampNeg (σ.2 19 r15.toNatClampNeg)) (fun σ16 =>
some (.inl (v4 + 1, σ16)))))))))
else (
(f_X7_seatedAll v1 v2 σ).bind (fun r17 =>
(f_X7_chanceOf r17 σ).bind (uc (fun r18 σ19 =>
chk (inb r10 212992) (lm (stL σ19 19 r10.toNatClampNeg r18) (fun σ20 =>
some (.inl (v4 + 1, σ20))))))))))))))))
def g_X7_findComing_15  (v1 : Int32) (v2 : Int32) (σ : MM) : Option ((Int32 × MM) ⊕ (MM)) :=
if ((1 : Int32) <<< (v1 &&& 31)) ≤ v2 then (
some (.inr σ))
else (
(f_X7_bits v2 σ).bind (fun r4 =>
(f_X7_needed σ).bind (fun r5 =>
if r5 < r4 then (
some (.inl (v2 + 1, σ)))
else (
(f_X7_needed σ).bind (fun r6 =>
(f_X7_calledMany σ).bind (fun r7 =>
if (r6 - r4) ≤ (r7 - v1) then (
(loopN (fun s => g_X7_findComing_56 v1 v2 s.1 s.2) FU ((0 : Int32), σ)).bind (fun o21 =>
some (.inl (v2 + 1, o21))))
else (
some (.inl (v2 + 1, σ)))))))))
def g_X7_findComing_9   (v1 : Int32) (σ : MM) : Option ((Int32 × MM) ⊕ (MM)) :=
if v1 < 0 then (
some (.inr σ))
else (
(loopN (fun s => g_X7_findComing_15 v1 s.1 s.2) FU ((0 : Int32), σ)).bind (fun o23 =>
some (.inl (v1 + (-1), o23))))
def f_X7_findComing (σ : MM) : Option (MM) :=
(f_X7_holdsTrue σ).bind (fun σ2 =>
(f_X7_calledMany σ2).bind (fun r3 =>
(loopN (fun s => g_X7_findComing_9 s.1 s.2) FU (r3, σ2)).bind (fun o25 =>
some (o25))))
abbrev rm_X7_findCome : Room := { frames := 6, cells := 0, slots := 0, locals := 138 }
def g_X7_findCome_15   (v1 : Int32) (v2 : Int32) (v3 : Int32) (σ : MM) : Option ((Int32 × Int32 × Int32) ⊕ (Int32 × Int32 × Int32)) :=
(f_X7_ends v1 v3 σ).bind (fun r3 =>
if r3 = 0 then (
(f_X7_strikesA v1 v2 v3 σ).bind (fun r4 =>
if r4 = 0 then (
(f_X7_strikesB v1 v2 v3 σ).bind (fun r5 =>
if r5 = 0 then (
some (.inl (v1 + 1, v2, v3 ||| ((1 : Int32) <<< (v1 &&& 31)))))
else (
some (.inl (v1 + 1, v2, v3)))))
else (
some (.inl (v1 + 1, v2 + (-1), v3)))))
else (
some (.inr (v1, v2, v3))))
def f_X7_findCome (σ : MM) : Option (MM) :=
(f_X7_findComing σ).bind (fun σ2 =>
chk (inb (1 : Int32) 5) (
(loopN (fun s => g_X7_findCome_15 s.1 s.2.1 s.2.2 σ2) FU ((0 : Int32), σ2.1 4 (1 : Int32).toNatClampNeg, (0 : Int32))).bind (fun o6 =>
(f_X7_seatedAll o6.1 o6.2.2 σ2).bind (fun r8 =>
lm (stI σ2 0 30 r8) (fun σ9 =>
lm (stI σ9 0 31 o6.2.1) (fun σ10 =>
(f_X7_leftOfB o6.1 o6.2.1 o6.2.2 σ10).bind (fun r11 =>
lm (stI σ10 0 32 r11) (fun σ12 =>
some (σ12)))))))))
abbrev rm_X7_coming : Room := { frames := 6, cells := 0, slots := 0, locals := 138 }
def f_X7_coming (σ : MM) : Option (Int64 × MM) :=
(f_X7_isEnough σ).bind (fun r1 =>
if r1 = 0 then (
(f_X7_noLong (-3 : Int32) σ).bind (uc (fun r5 σ6 =>
some ((r5, σ6)))))
else (
(f_X7_findComing σ).bind (fun σ3 =>
chk (inb (1 : Int32) 5) (
(f_X7_place (0 : Int32) (σ3.1 4 (1 : Int32).toNatClampNeg) (0 : Int32) σ3).bind (fun r4 =>
chk (inb r4 212992) (
some ((σ3.2 19 r4.toNatClampNeg, σ3))))))))
abbrev rm_X7_come : Room := { frames := 7, cells := 0, slots := 0, locals := 161 }
def f_X7_come (v1 : Int32) (σ : MM) : Option (Int32 × MM) :=
(f_X7_isIn v1 (0 : Int32) (2 : Int32) σ).bind (fun r1 =>
if r1 = 0 then (
(f_X7_no (-2 : Int32) σ).bind (uc (fun r7 σ8 =>
some ((r7, σ8)))))
else (
(f_X7_isEnough σ).bind (fun r2 =>
if r2 = 0 then (
(f_X7_no (-3 : Int32) σ).bind (uc (fun r5 σ6 =>
some ((r5, σ6)))))
else (
(f_X7_findCome σ).bind (fun σ4 =>
if v1 = 0 then (
some ((σ4.1 0 30, σ4)))
else (
if v1 = (1 : Int32) then (
some ((σ4.1 0 31, σ4)))
else (
some ((σ4.1 0 32, σ4)))))))))
abbrev rm_X7_ways : Room := { frames := 0, cells := 0, slots := 0, locals := 0 }
def g_X7_ways_18  (v0 : Int32) (v1 : Int32) (v2 : Int64) (v4 : Int32) (σ : MM) : Option ((Int64 × Int32) ⊕ (Int64)) :=
if v1 ≤ v4 then (
some (.inr v2))
else (
if v2 ≤ (0 : Int64) then (
some (.inr v2))
else (
chk (!(decide ((v4 + (1 : Int32)).toInt64 = 0))) (
some (.inl ((v2 * ((v0 - v4).toInt64)) / ((v4 + (1 : Int32)).toInt64), v4 + 1)))))
def f_X7_ways (v0 : Int32) (v1 : Int32) (σ : MM) : Option (Int64) :=
(if v1 < 0 then (
some ((0 : Int64)))
else (
if v1 ≤ v0 then (
some ((1 : Int64)))
else (
some ((0 : Int64))))).bind (fun o1 =>
(loopN (fun s => g_X7_ways_18 v0 v1 s.1 s.2 σ) FU (o1, (0 : Int32))).bind (fun o4 =>
some (o4)))
abbrev rm_X7_seldom : Room := { frames := 6, cells := 0, slots := 0, locals := 157 }
def g_X7_seldom_82  (v1 : Int32) (v3 : Int32) (v4 : Int32) (v5 : Int32) (σ : MM) : Option ((Int32 × Int32 × Int32) ⊕ (Int32 × Int32)) :=
(f_X7_calledMany σ).bind (fun r9 =>
if r9 ≤ v5 then (
some (.inr (v3, v4)))
else (
chk (inb v5 13) (
(if (σ.1 3 v5.toNatClampNeg) = v1 then (
some (((σ.1 0 20) >>> (v5 &&& 31)) &&& (1 : Int32)))
else (
some ((0 : Int32)))).bind (fun o10 =>
chk (inb v5 13) (
if (σ.1 3 v5.toNatClampNeg) = v1 then (
some (.inl (v3 + o10, v4 + (1 : Int32), v5 + 1)))
else (
some (.inl (v3 + o10, v4 + (0 : Int32), v5 + 1))))))))
def g_X7_seldom_151  (v4 : Int32) (v5 : Int64) (v7 : Int32) (σ : MM) : Option ((Int64 × Int32) ⊕ (Int64)) :=
chk (inb (1 : Int32) 5) (
if (σ.1 4 (1 : Int32).toNatClampNeg) < v7 then (
some (.inr v5))
else (
(f_X7_ways v4 v7 σ).bind (fun r15 =>
(f_X7_calledMany σ).bind (fun r16 =>
chk (inb (1 : Int32) 5) (
(f_X7_ways (r16 - v4) ((σ.1 4 (1 : Int32).toNatClampNeg) - v7) σ).bind (fun r17 =>
some (.inl (v5 + (r15 * r17), v7 + 1))))))))
def f_X7_seldom (v1 : Int32) (v2 : Int32) (σ : MM) : Option (Int64 × MM) :=
(f_X7_isSort v1 σ).bind (fun r1 =>
if r1 = 0 then (
(f_X7_noLong (-1 : Int32) σ).bind (uc (fun r26 σ27 =>
some ((r26, σ27)))))
else (
(f_X7_isIn v2 (0 : Int32) (1 : Int32) σ).bind (fun r2 =>
if r2 = 0 then (
(f_X7_noLong (-2 : Int32) σ).bind (uc (fun r24 σ25 =>
some ((r24, σ25)))))
else (
(f_X7_isEnough σ).bind (fun r3 =>
if r3 = 0 then (
(f_X7_noLong (-3 : Int32) σ).bind (uc (fun r4 σ5 =>
some ((r4, σ5)))))
else (
(f_X7_isLawful σ).bind (fun r6 =>
if r6 = 0 then (
(f_X7_noLong (-3 : Int32) σ).bind (uc (fun r22 σ23 =>
some ((r22, σ23)))))
else (
if v2 = (1 : Int32) then (
(f_X7_calledMany σ).bind (fun r20 =>
chk (inb (1 : Int32) 5) (
(f_X7_ways r20 (σ.1 4 (1 : Int32).toNatClampNeg) σ).bind (fun r21 =>
some ((r21, σ))))))
else (
(f_X7_findSlip σ).bind (uc (fun r7 σ8 =>
(loopN (fun s => g_X7_seldom_82 v1 s.1 s.2.1 s.2.2 σ8) FU ((0 : Int32), (0 : Int32), (0 : Int32))).bind (fun o13 =>
(loopN (fun s => g_X7_seldom_151 o13.2 s.1 s.2 σ8) FU ((0 : Int64), o13.1)).bind (fun o18 =>
some ((o18, σ8)))))))))))))))
abbrev rm_X7_finest : Room := { frames := 7, cells := 0, slots := 0, locals := 161 }
def f_X7_finest (σ : MM) : Option (Int32 × MM) :=
(f_X7_isEnough σ).bind (fun r1 =>
if r1 = 0 then (
(f_X7_no (-3 : Int32) σ).bind (uc (fun r27 σ28 =>
some ((r27, σ28)))))
else (
(f_X7_findLine σ).bind (fun σ3 =>
(f_X7_rightOf (σ3.1 0 17) σ3).bind (uc (fun r4 σ5 =>
(f_X7_restOf (0 : Int32) σ5).bind (uc (fun r6 σ7 =>
(if r6 = (-9 : Int32) then (
some ((0 : Int32), r4, σ7))
else (
chk (!(decide ((4096 : Int32) = 0))) (
chk (!(decide ((4096 : Int32) = 0))) (
(f_X7_juryOf (r6 / (4096 : Int32)) (r6 - r6 / (4096 : Int32) * (4096 : Int32)) σ7).bind (fun r21 =>
(f_X7_rightOf r21 σ7).bind (uc (fun r22 σ23 =>
(if r22 ≤ r4 then (
some ((0 : Int32)))
else (
some ((1 : Int32)))).bind (fun o24 =>
if r22 ≤ r4 then (
some (o24, r4, σ23))
else (
some (o24, r22, σ23)))))))))).bind (fun o14 =>
(f_X7_findCome o14.2.2).bind (fun σ18 =>
(f_X7_rightOf (σ18.1 0 30) σ18).bind (uc (fun r19 σ20 =>
if r19 ≤ o14.2.1 then (
some ((o14.1, σ20)))
else (
some (((2 : Int32), σ20))))))))))))))
abbrev rm_X7_lot : Room := { frames := 3, cells := 0, slots := 0, locals := 74 }
def g_X7_lot_43  (v1 : Int32) (v2 : Int64) (v4 : Int32) (σ : MM) : Option ((Int64 × Int32 × MM) ⊕ (Int64 × MM)) :=
if ((1 : Int32) <<< ((σ.1 0 6) &&& 31)) ≤ v4 then (
some (.inr (v2, σ)))
else (
(f_X7_bits v4 σ).bind (fun r5 =>
(f_X7_needed σ).bind (fun r6 =>
if r5 = r6 then (
if v1 = 0 then (
(f_X7_rightOf v4 σ).bind (uc (fun r7 σ8 =>
some (.inl (v2 + r7, v4 + 1, σ8)))))
else (
some (.inl (v2 + (1 : Int64), v4 + 1, σ))))
else (
some (.inl (v2, v4 + 1, σ))))))
def f_X7_lot (v1 : Int32) (σ : MM) : Option (Int64 × MM) :=
(f_X7_isIn v1 (0 : Int32) (1 : Int32) σ).bind (fun r1 =>
if r1 = 0 then (
(f_X7_noLong (-2 : Int32) σ).bind (uc (fun r13 σ14 =>
some ((r13, σ14)))))
else (
(f_X7_needed σ).bind (fun r2 =>
if r2 ≤ (σ.1 0 6) then (
(f_X7_holdsTrue σ).bind (fun σ4 =>
(loopN (fun s => g_X7_lot_43 v1 s.1 s.2.1 s.2.2) FU ((0 : Int64), (0 : Int32), σ4)).bind (fun o9 =>
some ((o9.1, o9.2)))))
else (
(f_X7_noLong (-3 : Int32) σ).bind (uc (fun r11 σ12 =>
some ((r11, σ12))))))))
abbrev rm_X7_trade : Room := { frames := 1, cells := 0, slots := 0, locals := 22 }
def g_X7_trade_43  (v1 : Int32) (v2 : Int32) (v3 : Int32) (v4 : Int32) (σ : MM) : Option ((Int32 × Int32) ⊕ (Int32)) :=
if v4 < 0 then (
some (.inr v3))
else (
chk (inb v4 13) (
if (σ.1 3 v4.toNatClampNeg) = v2 then (
if ((v1 >>> (v4 &&& 31)) &&& (1 : Int32)) = 0 then (
some (.inl (v4, v4 + (-1))))
else (
some (.inl (v3, v4 + (-1)))))
else (
some (.inl (v3, v4 + (-1))))))
def g_X7_trade_22   (v1 : Int32) (v2 : Int32) (σ : MM) : Option ((Int32 × Int32) ⊕ (Int32)) :=
(f_X7_bits v1 σ).bind (fun r2 =>
(f_X7_needed σ).bind (fun r3 =>
if r3 ≤ r2 then (
some (.inr v1))
else (
(loopN (fun s => g_X7_trade_43 v1 v2 s.1 s.2 σ) FU ((-1 : Int32), (σ.1 0 6) - (1 : Int32))).bind (fun o4 =>
(if 0 ≤ o4 then (
some ((1 : Int32) <<< (o4 &&& 31)))
else (
some ((0 : Int32)))).bind (fun o6 =>
chk (!(decide ((6 : Int32) = 0))) (
some (.inl (v1 ||| o6, (v2 + (1 : Int32)) - (v2 + (1 : Int32)) / (6 : Int32) * (6 : Int32)))))))))
def f_X7_trade (σ : MM) : Option (Int32 × MM) :=
(f_X7_needed σ).bind (fun r1 =>
if r1 ≤ (σ.1 0 6) then (
(loopN (fun s => g_X7_trade_22 s.1 s.2 σ) FU ((0 : Int32), (0 : Int32))).bind (fun o9 =>
some ((o9, σ))))
else (
(f_X7_no (-3 : Int32) σ).bind (uc (fun r11 σ12 =>
some ((r11, σ12))))))
abbrev rm_X7_holdsWrong : Room := { frames := 1, cells := 0, slots := 0, locals := 21 }
def g_X7_holdsWrong_7  (v1 : Int32) (v2 : Int32) (v3 : Int32) (v4 : Int32) (σ : MM) : Option ((Int32 × MM) ⊕ (MM)) :=
if (σ.1 0 6) ≤ v4 then (
some (.inr σ))
else (
chk (inb v4 13) (
if (σ.1 3 v4.toNatClampNeg) = v1 then (
chk (inb ((2 : Int32) * v4) 24) (lm (stI σ 8 ((2 : Int32) * v4).toNatClampNeg v2) (fun σ3 =>
chk (inb (((2 : Int32) * v4) + (1 : Int32)) 24) (lm (stI σ3 8 (((2 : Int32) * v4) + (1 : Int32)).toNatClampNeg v3) (fun σ4 =>
some (.inl (v4 + 1, σ4)))))))
else (
some (.inl (v4 + 1, σ)))))
def f_X7_holdsWrong (v1 : Int32) (v2 : Int32) (v3 : Int32) (σ : MM) : Option (MM) :=
(f_X7_holdsTrue σ).bind (fun σ2 =>
(loopN (fun s => g_X7_holdsWrong_7 v1 v2 v3 s.1 s.2) FU ((0 : Int32), σ2)).bind (fun o5 =>
some (o5)))
abbrev rm_X7_wrongly : Room := { frames := 5, cells := 0, slots := 0, locals := 126 }
def g_X7_wrongly_105  (v1 : Int32) (v2 : Int32) (v3 : Int32) (v5 : Int64) (v7 : Int32) (v8 : Int32) (v9 : Int32) (v10 : Int32) (σ : MM) : Option ((Int32 × Int32 × Int32 × Int32 × MM) ⊕ (Int32 × MM)) :=
if (v8 + v9) ≤ 0 then (
some (.inr (v7, σ)))
else (
(f_X7_mover v8 v9 v10 σ).bind (fun r10 =>
(if r10 = 0 then (
(f_X7_holdsWrong v1 v2 v3 σ).bind (fun σ24 =>
some (σ24)))
else (
(f_X7_holdsTrue σ).bind (fun σ22 =>
some (σ22)))).bind (fun o15 =>
(f_X7_findBest v7 v8 v9 o15).bind (fun σ19 =>
(f_X7_strikeOf v8 v9 v10 v7 σ19).bind (fun r20 =>
if r10 = 0 then (
some (.inl (v7 &&& (((1 : Int32) <<< (r20 &&& 31)) ^^^ (-1 : Int32)), v8 + (-1), v9, (1 : Int32) - r10, σ19)))
else (
some (.inl (v7 &&& (((1 : Int32) <<< (r20 &&& 31)) ^^^ (-1 : Int32)), v8, v9 + (-1), (1 : Int32) - r10, σ19))))))))
def f_X7_wrongly (v1 : Int32) (v2 : Int32) (v3 : Int32) (σ : MM) : Option (Int64 × MM) :=
(f_X7_isSort v1 σ).bind (fun r1 =>
if r1 = 0 then (
(f_X7_noLong (-1 : Int32) σ).bind (uc (fun r34 σ35 =>
some ((r34, σ35)))))
else (
(if v2 < 0 then (
some ((-4 : Int32)))
else (
if 0 ≤ v3 then (
if (100 : Int32) < v2 then (
some ((-6 : Int32)))
else (
if v3 ≤ (100 : Int32) then (
(f_X7_isEnough σ).bind (fun r33 =>
if r33 = 0 then (
some ((-3 : Int32)))
else (
some ((0 : Int32)))))
else (
some ((-6 : Int32)))))
else (
some ((-4 : Int32))))).bind (fun o3 =>
if o3 = 0 then (
(f_X7_findTurns σ).bind (fun σ7 =>
(f_X7_turnsOf σ7).bind (fun r8 =>
(f_X7_called σ7).bind (fun r9 =>
chk (inb (1 : Int32) 5) (
chk (inb (2 : Int32) 5) (
(loopN (fun s => g_X7_wrongly_105 v1 v2 v3 r8 s.1 s.2.1 s.2.2.1 s.2.2.2.1 s.2.2.2.2) FU (r9, σ7.1 4 (1 : Int32).toNatClampNeg, σ7.1 4 (2 : Int32).toNatClampNeg, (0 : Int32), σ7)).bind (fun o25 =>
(f_X7_holdsTrue o25.2).bind (fun σ28 =>
(f_X7_chanceOf o25.1 σ28).bind (uc (fun r29 σ30 =>
some ((r29 - r8, σ30))))))))))))
else (
(f_X7_noLong o3 σ).bind (uc (fun r31 σ32 =>
some ((r31, σ32))))))))
abbrev rm_X7_turnsWith : Room := { frames := 4, cells := 0, slots := 0, locals := 106 }
def g_X7_turnsWith_8  (v1 : Int32) (v2 : Int32) (v3 : Int32) (σ : MM) : Option ((Int32 × MM) ⊕ (MM)) :=
if (((2 : Int32) * v1) + (2 : Int32)) ≤ v3 then (
some (.inr σ))
else (
chk (inb v3 24) (
if 0 ≤ ((σ.1 8 v3.toNatClampNeg) + v2) then (
if ((σ.1 8 v3.toNatClampNeg) + v2) ≤ (100 : Int32) then (
chk (inb v3 24) (lm (stI σ 8 v3.toNatClampNeg ((σ.1 8 v3.toNatClampNeg) + v2)) (fun σ3 =>
some (.inl (v3 + 1, σ3)))))
else (
chk (inb v3 24) (lm (stI σ 8 v3.toNatClampNeg (100 : Int32)) (fun σ4 =>
some (.inl (v3 + 1, σ4))))))
else (
chk (inb v3 24) (lm (stI σ 8 v3.toNatClampNeg (0 : Int32)) (fun σ5 =>
some (.inl (v3 + 1, σ5)))))))
def f_X7_turnsWith (v1 : Int32) (v2 : Int32) (σ : MM) : Option (Int64 × MM) :=
(f_X7_holdsTrue σ).bind (fun σ2 =>
(loopN (fun s => g_X7_turnsWith_8 v1 v2 s.1 s.2) FU ((2 : Int32) * v1, σ2)).bind (fun o6 =>
(f_X7_called o6).bind (fun r8 =>
chk (inb (1 : Int32) 5) (
chk (inb (2 : Int32) 5) (
(f_X7_findBest r8 (o6.1 4 (1 : Int32).toNatClampNeg) (o6.1 4 (2 : Int32).toNatClampNeg) o6).bind (fun σ10 =>
(f_X7_turnsOf σ10).bind (fun r11 =>
some ((r11, σ10)))))))))
abbrev rm_X7_asked : Room := { frames := 5, cells := 0, slots := 0, locals := 130 }
def f_X7_asked (v1 : Int32) (v2 : Int32) (σ : MM) : Option (Int64 × MM) :=
(f_X7_isIn v1 (0 : Int32) ((σ.1 0 6) - (1 : Int32)) σ).bind (fun r1 =>
if r1 = 0 then (
(f_X7_noLong (-1 : Int32) σ).bind (uc (fun r18 σ19 =>
some ((r18, σ19)))))
else (
(f_X7_out v2 (0 : Int32) (50 : Int32) σ).bind (fun r2 =>
(if r2 = 0 then (
(f_X7_isEnough σ).bind (fun r16 =>
if r16 = 0 then (
some ((-3 : Int32)))
else (
(f_X7_calledMany σ).bind (fun r17 =>
if v1 < r17 then (
some (r2))
else (
some ((-3 : Int32)))))))
else (
some (r2))).bind (fun o5 =>
if o5 = 0 then (
(f_X7_turnsWith v1 v2 σ).bind (uc (fun r8 σ9 =>
(f_X7_turnsWith v1 (-v2) σ9).bind (uc (fun r10 σ11 =>
(f_X7_turnsWith v1 (0 : Int32) σ11).bind (uc (fun r12 σ13 =>
some (((r8 + r10) - ((2 : Int64) * r12), σ13)))))))))
else (
(f_X7_noLong o5 σ).bind (uc (fun r14 σ15 =>
some ((r14, σ15)))))))))
abbrev rm_X7_image : Room := { frames := 0, cells := 0, slots := 0, locals := 0 }
def g_X7_image_2   (v1 : Int32) (σ : MM) : Option ((Int32 × MM) ⊕ (MM)) :=
if (12 : Int32) ≤ v1 then (
some (.inr σ))
else (
chk (inb v1 12) (
chk (inb v1 40) (lm (stI σ 20 v1.toNatClampNeg (σ.1 2 v1.toNatClampNeg)) (fun σ1 =>
chk (inb v1 13) (
chk (inb ((12 : Int32) + v1) 40) (lm (stI σ1 20 ((12 : Int32) + v1).toNatClampNeg (σ1.1 3 v1.toNatClampNeg)) (fun σ2 =>
some (.inl (v1 + 1, σ2)))))))))
def g_X7_image_43   (v1 : Int32) (σ : MM) : Option ((Int32 × MM) ⊕ (MM)) :=
if (5 : Int32) ≤ v1 then (
some (.inr σ))
else (
chk (inb v1 5) (
chk (inb ((24 : Int32) + v1) 40) (lm (stI σ 20 ((24 : Int32) + v1).toNatClampNeg (σ.1 4 v1.toNatClampNeg)) (fun σ5 =>
some (.inl (v1 + 1, σ5))))))
def f_X7_image (σ : MM) : Option (Int32 × MM) :=
(loopN (fun s => g_X7_image_2 s.1 s.2) FU ((0 : Int32), σ)).bind (fun o3 =>
(loopN (fun s => g_X7_image_43 s.1 s.2) FU ((0 : Int32), o3)).bind (fun o6 =>
lm (stI o6 0 35 (o6.1 0 6)) (fun σ8 =>
chk (isB (1 : Int32)) (lm (stI σ8 0 34 (1 : Int32)) (fun σ9 =>
some ((σ9.1 0 6, σ9)))))))
abbrev rm_X7_restore : Room := { frames := 1, cells := 0, slots := 0, locals := 21 }
def g_X7_restore_16   (v1 : Int32) (σ : MM) : Option ((Int32 × MM) ⊕ (MM)) :=
if (12 : Int32) ≤ v1 then (
some (.inr σ))
else (
chk (inb v1 40) (
chk (inb v1 12) (lm (stI σ 2 v1.toNatClampNeg (σ.1 20 v1.toNatClampNeg)) (fun σ1 =>
chk (inb ((12 : Int32) + v1) 40) (
chk (inb v1 13) (lm (stI σ1 3 v1.toNatClampNeg (σ1.1 20 ((12 : Int32) + v1).toNatClampNeg)) (fun σ2 =>
some (.inl (v1 + 1, σ2)))))))))
def g_X7_restore_57   (v1 : Int32) (σ : MM) : Option ((Int32 × MM) ⊕ (MM)) :=
if (5 : Int32) ≤ v1 then (
some (.inr σ))
else (
chk (inb ((24 : Int32) + v1) 40) (
chk (inb v1 5) (lm (stI σ 4 v1.toNatClampNeg (σ.1 20 ((24 : Int32) + v1).toNatClampNeg)) (fun σ5 =>
some (.inl (v1 + 1, σ5))))))
def f_X7_restore (σ : MM) : Option (Int32 × MM) :=
if (σ.1 0 34) = 0 then (
(f_X7_no (-3 : Int32) σ).bind (uc (fun r9 σ10 =>
some ((r9, σ10)))))
else (
(loopN (fun s => g_X7_restore_16 s.1 s.2) FU ((0 : Int32), σ)).bind (fun o3 =>
(loopN (fun s => g_X7_restore_57 s.1 s.2) FU ((0 : Int32), o3)).bind (fun o6 =>
lm (stI o6 0 6 (o6.1 0 35)) (fun σ8 =>
some ((σ8.1 0 6, σ8))))))
abbrev rm_X7_count : Room := { frames := 2, cells := 0, slots := 0, locals := 40 }
def g_X7_count_102  (v1 : Int32) (v2 : Int32) (v3 : Int32) (σ : MM) : Option ((Int32 × Int32) ⊕ (Int32)) :=
if (σ.1 0 6) ≤ v3 then (
some (.inr v2))
else (
chk (inb v3 13) (
if (σ.1 3 v3.toNatClampNeg) = (v1 - (4 : Int32)) then (
some (.inl (v2 + (1 : Int32), v3 + 1)))
else (
some (.inl (v2 + (0 : Int32), v3 + 1)))))
def f_X7_count (v1 : Int32) (σ : MM) : Option (Int32) :=
(f_X7_isIn v1 (11 : Int32) (16 : Int32) σ).bind (fun r1 =>
if r1 = 0 then (
if v1 = (0 : Int32) then (
some (σ.1 0 6))
else (if v1 = (1 : Int32) then (
(f_X7_isEnough σ).bind (fun r2 =>
if r2 = 0 then (
some ((0 : Int32)))
else (
(f_X7_calledMany σ).bind (fun r3 =>
some (r3)))))
else (if v1 = (2 : Int32) then (
some (σ.1 0 8))
else (if v1 = (3 : Int32) then (
some (σ.1 0 19))
else ((f_X7_isIn v1 (4 : Int32) (9 : Int32) σ).bind (fun r4 =>
if r4 = 0 then (
some ((-9 : Int32)))
else (
(loopN (fun s => g_X7_count_102 v1 s.1 s.2 σ) FU ((0 : Int32), (0 : Int32))).bind (fun o5 =>
some (o5)))))))))
else (
chk (inb (v1 - (10 : Int32)) 7) (
some (σ.1 1 (v1 - (10 : Int32)).toNatClampNeg))))
