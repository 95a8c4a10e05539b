/-! the values that objects hold (products with names), and the blocks of cells that hold them -/
abbrev zN : Type := (Nat) × (Nat → Int32) × (Int32)
def nCap (v : zN) : Nat := v.1
def nRow (v : zN) : Nat → Int32 := v.2.1
def nSize (v : zN) : Int32 := v.2.2
def nSetCap (v : zN) (x : Nat) : zN := (x, v.2.1, v.2.2)
def nSetRow (v : zN) (x : Nat → Int32) : zN := (v.1, x, v.2.2)
def nSetSize (v : zN) (x : Int32) : zN := (v.1, v.2.1, x)
abbrev zE : Type := (Int32) × (Int32) × (Int32) × (Int32) × (Int32) × (zN) × (zN) × (zN)
def eNum (v : zE) : Int32 := v.1
def eUw (v : zE) : Int32 := v.2.1
def eHeard (v : zE) : Int32 := v.2.2.1
def eSpot (v : zE) : Int32 := v.2.2.2.1
def eWr (v : zE) : Int32 := v.2.2.2.2.1
def eCopy (v : zE) : zN := v.2.2.2.2.2.1
def eWait (v : zE) : zN := v.2.2.2.2.2.2.1
def eBacks (v : zE) : zN := v.2.2.2.2.2.2.2
def eSetNum (v : zE) (x : Int32) : zE := (x, v.2.1, v.2.2.1, v.2.2.2.1, v.2.2.2.2.1, v.2.2.2.2.2.1, v.2.2.2.2.2.2.1, v.2.2.2.2.2.2.2)
def eSetUw (v : zE) (x : Int32) : zE := (v.1, x, v.2.2.1, v.2.2.2.1, v.2.2.2.2.1, v.2.2.2.2.2.1, v.2.2.2.2.2.2.1, v.2.2.2.2.2.2.2)
def eSetHeard (v : zE) (x : Int32) : zE := (v.1, v.2.1, x, v.2.2.2.1, v.2.2.2.2.1, v.2.2.2.2.2.1, v.2.2.2.2.2.2.1, v.2.2.2.2.2.2.2)
def eSetSpot (v : zE) (x : Int32) : zE := (v.1, v.2.1, v.2.2.1, x, v.2.2.2.2.1, v.2.2.2.2.2.1, v.2.2.2.2.2.2.1, v.2.2.2.2.2.2.2)
def eSetWr (v : zE) (x : Int32) : zE := (v.1, v.2.1, v.2.2.1, v.2.2.2.1, x, v.2.2.2.2.2.1, v.2.2.2.2.2.2.1, v.2.2.2.2.2.2.2)
def eSetCopy (v : zE) (x : zN) : zE := (v.1, v.2.1, v.2.2.1, v.2.2.2.1, v.2.2.2.2.1, x, v.2.2.2.2.2.2.1, v.2.2.2.2.2.2.2)
def eSetWait (v : zE) (x : zN) : zE := (v.1, v.2.1, v.2.2.1, v.2.2.2.1, v.2.2.2.2.1, v.2.2.2.2.2.1, x, v.2.2.2.2.2.2.2)
def eSetBacks (v : zE) (x : zN) : zE := (v.1, v.2.1, v.2.2.1, v.2.2.2.1, v.2.2.2.2.1, v.2.2.2.2.2.1, v.2.2.2.2.2.2.1, x)
abbrev zT : Type := (Nat → zE) × (zN) × (zN) × (zN)
def tEds (v : zT) : Nat → zE := v.1
def tLog (v : zT) : zN := v.2.1
def tText (v : zT) : zN := v.2.2.1
def tWrs (v : zT) : zN := v.2.2.2
def tSetEds (v : zT) (x : Nat → zE) : zT := (x, v.2.1, v.2.2.1, v.2.2.2)
def tSetLog (v : zT) (x : zN) : zT := (v.1, x, v.2.2.1, v.2.2.2)
def tSetText (v : zT) (x : zN) : zT := (v.1, v.2.1, x, v.2.2.2)
def tSetWrs (v : zT) (x : zN) : zT := (v.1, v.2.1, v.2.2.1, x)
abbrev zC : Type := (Int32) × (Int32) × (Int32) × (Int32) × (zN) × (zN)
def cPos (v : zC) : Int32 := v.1
def cRsn (v : zC) : Int32 := v.2.1
def cCause (v : zC) : Int32 := v.2.2.1
def cDone (v : zC) : Int32 := v.2.2.2.1
def cSigns (v : zC) : zN := v.2.2.2.2.1
def cNums (v : zC) : zN := v.2.2.2.2.2
def cSetPos (v : zC) (x : Int32) : zC := (x, v.2.1, v.2.2.1, v.2.2.2.1, v.2.2.2.2.1, v.2.2.2.2.2)
def cSetRsn (v : zC) (x : Int32) : zC := (v.1, x, v.2.2.1, v.2.2.2.1, v.2.2.2.2.1, v.2.2.2.2.2)
def cSetCause (v : zC) (x : Int32) : zC := (v.1, v.2.1, x, v.2.2.2.1, v.2.2.2.2.1, v.2.2.2.2.2)
def cSetDone (v : zC) (x : Int32) : zC := (v.1, v.2.1, v.2.2.1, x, v.2.2.2.2.1, v.2.2.2.2.2)
def cSetSigns (v : zC) (x : zN) : zC := (v.1, v.2.1, v.2.2.1, v.2.2.2.1, x, v.2.2.2.2.2)
def cSetNums (v : zC) (x : zN) : zC := (v.1, v.2.1, v.2.2.1, v.2.2.2.1, v.2.2.2.2.1, x)
abbrev zX : Type := (zT) × (zT) × (zT) × (zT) × (Nat → zT) × (Nat → Nat → Nat) × (Int32) × (zC)
def xNow (v : zX) : zT := v.1
def xTrial (v : zX) : zT := v.2.1
def xUp (v : zX) : zT := v.2.2.1
def xDown (v : zX) : zT := v.2.2.2.1
def xHv (v : zX) : Nat → zT := v.2.2.2.2.1
def xGh (v : zX) : Nat → Nat → Nat := v.2.2.2.2.2.1
def xHsz (v : zX) : Int32 := v.2.2.2.2.2.2.1
def xCm (v : zX) : zC := v.2.2.2.2.2.2.2
def xSetNow (v : zX) (x : zT) : zX := (x, v.2.1, v.2.2.1, v.2.2.2.1, v.2.2.2.2.1, v.2.2.2.2.2.1, v.2.2.2.2.2.2.1, v.2.2.2.2.2.2.2)
def xSetTrial (v : zX) (x : zT) : zX := (v.1, x, v.2.2.1, v.2.2.2.1, v.2.2.2.2.1, v.2.2.2.2.2.1, v.2.2.2.2.2.2.1, v.2.2.2.2.2.2.2)
def xSetUp (v : zX) (x : zT) : zX := (v.1, v.2.1, x, v.2.2.2.1, v.2.2.2.2.1, v.2.2.2.2.2.1, v.2.2.2.2.2.2.1, v.2.2.2.2.2.2.2)
def xSetDown (v : zX) (x : zT) : zX := (v.1, v.2.1, v.2.2.1, x, v.2.2.2.2.1, v.2.2.2.2.2.1, v.2.2.2.2.2.2.1, v.2.2.2.2.2.2.2)
def xSetHv (v : zX) (x : Nat → zT) : zX := (v.1, v.2.1, v.2.2.1, v.2.2.2.1, x, v.2.2.2.2.2.1, v.2.2.2.2.2.2.1, v.2.2.2.2.2.2.2)
def xSetGh (v : zX) (x : Nat → Nat → Nat) : zX := (v.1, v.2.1, v.2.2.1, v.2.2.2.1, v.2.2.2.2.1, x, v.2.2.2.2.2.2.1, v.2.2.2.2.2.2.2)
def xSetHsz (v : zX) (x : Int32) : zX := (v.1, v.2.1, v.2.2.1, v.2.2.2.1, v.2.2.2.2.1, v.2.2.2.2.2.1, x, v.2.2.2.2.2.2.2)
def xSetCm (v : zX) (x : zC) : zX := (v.1, v.2.1, v.2.2.1, v.2.2.2.1, v.2.2.2.2.1, v.2.2.2.2.2.1, v.2.2.2.2.2.2.1, x)
abbrev zM : Type := (Nat → Int32) × (Nat → Int32) × (Nat → Int32) × (Nat → Int32) × (Nat → Int32) × (Nat → Int32) × (Nat → Int32) × (Nat → Int32) × (Int32) × (Int32) × (Int32) × (Int32) × (Int32) × (Int32) × (Int32) × (Int32) × (Int32)
def mS (v : zM) : Nat → Int32 := v.1
def mAside (v : zM) : Nat → Int32 := v.2.1
def mBefore (v : zM) : Nat → Int32 := v.2.2.1
def mText (v : zM) : Nat → Int32 := v.2.2.2.1
def mLetters (v : zM) : Nat → Int32 := v.2.2.2.2.1
def mBys (v : zM) : Nat → Int32 := v.2.2.2.2.2.1
def mFirst (v : zM) : Nat → Int32 := v.2.2.2.2.2.2.1
def mCommand (v : zM) : Nat → Int32 := v.2.2.2.2.2.2.2.1
def mKnown (v : zM) : Int32 := v.2.2.2.2.2.2.2.2.1
def mLength (v : zM) : Int32 := v.2.2.2.2.2.2.2.2.2.1
def mLogLong (v : zM) : Int32 := v.2.2.2.2.2.2.2.2.2.2.1
def mAreSame (v : zM) : Int32 := v.2.2.2.2.2.2.2.2.2.2.2.1
def mAt (v : zM) : Int32 := v.2.2.2.2.2.2.2.2.2.2.2.2.1
def mIsWrong (v : zM) : Int32 := v.2.2.2.2.2.2.2.2.2.2.2.2.2.1
def mPosition (v : zM) : Int32 := v.2.2.2.2.2.2.2.2.2.2.2.2.2.2.1
def mReason (v : zM) : Int32 := v.2.2.2.2.2.2.2.2.2.2.2.2.2.2.2.1
def mCause (v : zM) : Int32 := v.2.2.2.2.2.2.2.2.2.2.2.2.2.2.2.2
def mSetS (v : zM) (x : Nat → Int32) : zM := (x, v.2.1, v.2.2.1, v.2.2.2.1, v.2.2.2.2.1, v.2.2.2.2.2.1, v.2.2.2.2.2.2.1, v.2.2.2.2.2.2.2.1, v.2.2.2.2.2.2.2.2.1, v.2.2.2.2.2.2.2.2.2.1, v.2.2.2.2.2.2.2.2.2.2.1, v.2.2.2.2.2.2.2.2.2.2.2.1, v.2.2.2.2.2.2.2.2.2.2.2.2.1, v.2.2.2.2.2.2.2.2.2.2.2.2.2.1, v.2.2.2.2.2.2.2.2.2.2.2.2.2.2.1, v.2.2.2.2.2.2.2.2.2.2.2.2.2.2.2.1, v.2.2.2.2.2.2.2.2.2.2.2.2.2.2.2.2)
def mSetAside (v : zM) (x : Nat → Int32) : zM := (v.1, x, v.2.2.1, v.2.2.2.1, v.2.2.2.2.1, v.2.2.2.2.2.1, v.2.2.2.2.2.2.1, v.2.2.2.2.2.2.2.1, v.2.2.2.2.2.2.2.2.1, v.2.2.2.2.2.2.2.2.2.1, v.2.2.2.2.2.2.2.2.2.2.1, v.2.2.2.2.2.2.2.2.2.2.2.1, v.2.2.2.2.2.2.2.2.2.2.2.2.1, v.2.2.2.2.2.2.2.2.2.2.2.2.2.1, v.2.2.2.2.2.2.2.2.2.2.2.2.2.2.1, v.2.2.2.2.2.2.2.2.2.2.2.2.2.2.2.1, v.2.2.2.2.2.2.2.2.2.2.2.2.2.2.2.2)
def mSetBefore (v : zM) (x : Nat → Int32) : zM := (v.1, v.2.1, x, v.2.2.2.1, v.2.2.2.2.1, v.2.2.2.2.2.1, v.2.2.2.2.2.2.1, v.2.2.2.2.2.2.2.1, v.2.2.2.2.2.2.2.2.1, v.2.2.2.2.2.2.2.2.2.1, v.2.2.2.2.2.2.2.2.2.2.1, v.2.2.2.2.2.2.2.2.2.2.2.1, v.2.2.2.2.2.2.2.2.2.2.2.2.1, v.2.2.2.2.2.2.2.2.2.2.2.2.2.1, v.2.2.2.2.2.2.2.2.2.2.2.2.2.2.1, v.2.2.2.2.2.2.2.2.2.2.2.2.2.2.2.1, v.2.2.2.2.2.2.2.2.2.2.2.2.2.2.2.2)
def mSetText (v : zM) (x : Nat → Int32) : zM := (v.1, v.2.1, v.2.2.1, x, v.2.2.2.2.1, v.2.2.2.2.2.1, v.2.2.2.2.2.2.1, v.2.2.2.2.2.2.2.1, v.2.2.2.2.2.2.2.2.1, v.2.2.2.2.2.2.2.2.2.1, v.2.2.2.2.2.2.2.2.2.2.1, v.2.2.2.2.2.2.2.2.2.2.2.1, v.2.2.2.2.2.2.2.2.2.2.2.2.1, v.2.2.2.2.2.2.2.2.2.2.2.2.2.1, v.2.2.2.2.2.2.2.2.2.2.2.2.2.2.1, v.2.2.2.2.2.2.2.2.2.2.2.2.2.2.2.1, v.2.2.2.2.2.2.2.2.2.2.2.2.2.2.2.2)
def mSetLetters (v : zM) (x : Nat → Int32) : zM := (v.1, v.2.1, v.2.2.1, v.2.2.2.1, x, v.2.2.2.2.2.1, v.2.2.2.2.2.2.1, v.2.2.2.2.2.2.2.1, v.2.2.2.2.2.2.2.2.1, v.2.2.2.2.2.2.2.2.2.1, v.2.2.2.2.2.2.2.2.2.2.1, v.2.2.2.2.2.2.2.2.2.2.2.1, v.2.2.2.2.2.2.2.2.2.2.2.2.1, v.2.2.2.2.2.2.2.2.2.2.2.2.2.1, v.2.2.2.2.2.2.2.2.2.2.2.2.2.2.1, v.2.2.2.2.2.2.2.2.2.2.2.2.2.2.2.1, v.2.2.2.2.2.2.2.2.2.2.2.2.2.2.2.2)
def mSetBys (v : zM) (x : Nat → Int32) : zM := (v.1, v.2.1, v.2.2.1, v.2.2.2.1, v.2.2.2.2.1, x, v.2.2.2.2.2.2.1, v.2.2.2.2.2.2.2.1, v.2.2.2.2.2.2.2.2.1, v.2.2.2.2.2.2.2.2.2.1, v.2.2.2.2.2.2.2.2.2.2.1, v.2.2.2.2.2.2.2.2.2.2.2.1, v.2.2.2.2.2.2.2.2.2.2.2.2.1, v.2.2.2.2.2.2.2.2.2.2.2.2.2.1, v.2.2.2.2.2.2.2.2.2.2.2.2.2.2.1, v.2.2.2.2.2.2.2.2.2.2.2.2.2.2.2.1, v.2.2.2.2.2.2.2.2.2.2.2.2.2.2.2.2)
def mSetFirst (v : zM) (x : Nat → Int32) : zM := (v.1, v.2.1, v.2.2.1, v.2.2.2.1, v.2.2.2.2.1, v.2.2.2.2.2.1, x, v.2.2.2.2.2.2.2.1, v.2.2.2.2.2.2.2.2.1, v.2.2.2.2.2.2.2.2.2.1, v.2.2.2.2.2.2.2.2.2.2.1, v.2.2.2.2.2.2.2.2.2.2.2.1, v.2.2.2.2.2.2.2.2.2.2.2.2.1, v.2.2.2.2.2.2.2.2.2.2.2.2.2.1, v.2.2.2.2.2.2.2.2.2.2.2.2.2.2.1, v.2.2.2.2.2.2.2.2.2.2.2.2.2.2.2.1, v.2.2.2.2.2.2.2.2.2.2.2.2.2.2.2.2)
def mSetCommand (v : zM) (x : Nat → Int32) : zM := (v.1, v.2.1, v.2.2.1, v.2.2.2.1, v.2.2.2.2.1, v.2.2.2.2.2.1, v.2.2.2.2.2.2.1, x, v.2.2.2.2.2.2.2.2.1, v.2.2.2.2.2.2.2.2.2.1, v.2.2.2.2.2.2.2.2.2.2.1, v.2.2.2.2.2.2.2.2.2.2.2.1, v.2.2.2.2.2.2.2.2.2.2.2.2.1, v.2.2.2.2.2.2.2.2.2.2.2.2.2.1, v.2.2.2.2.2.2.2.2.2.2.2.2.2.2.1, v.2.2.2.2.2.2.2.2.2.2.2.2.2.2.2.1, v.2.2.2.2.2.2.2.2.2.2.2.2.2.2.2.2)
def mSetKnown (v : zM) (x : Int32) : zM := (v.1, v.2.1, v.2.2.1, v.2.2.2.1, v.2.2.2.2.1, v.2.2.2.2.2.1, v.2.2.2.2.2.2.1, v.2.2.2.2.2.2.2.1, x, v.2.2.2.2.2.2.2.2.2.1, v.2.2.2.2.2.2.2.2.2.2.1, v.2.2.2.2.2.2.2.2.2.2.2.1, v.2.2.2.2.2.2.2.2.2.2.2.2.1, v.2.2.2.2.2.2.2.2.2.2.2.2.2.1, v.2.2.2.2.2.2.2.2.2.2.2.2.2.2.1, v.2.2.2.2.2.2.2.2.2.2.2.2.2.2.2.1, v.2.2.2.2.2.2.2.2.2.2.2.2.2.2.2.2)
def mSetLength (v : zM) (x : Int32) : zM := (v.1, v.2.1, v.2.2.1, v.2.2.2.1, v.2.2.2.2.1, v.2.2.2.2.2.1, v.2.2.2.2.2.2.1, v.2.2.2.2.2.2.2.1, v.2.2.2.2.2.2.2.2.1, x, v.2.2.2.2.2.2.2.2.2.2.1, v.2.2.2.2.2.2.2.2.2.2.2.1, v.2.2.2.2.2.2.2.2.2.2.2.2.1, v.2.2.2.2.2.2.2.2.2.2.2.2.2.1, v.2.2.2.2.2.2.2.2.2.2.2.2.2.2.1, v.2.2.2.2.2.2.2.2.2.2.2.2.2.2.2.1, v.2.2.2.2.2.2.2.2.2.2.2.2.2.2.2.2)
def mSetLogLong (v : zM) (x : Int32) : zM := (v.1, v.2.1, v.2.2.1, v.2.2.2.1, v.2.2.2.2.1, v.2.2.2.2.2.1, v.2.2.2.2.2.2.1, v.2.2.2.2.2.2.2.1, v.2.2.2.2.2.2.2.2.1, v.2.2.2.2.2.2.2.2.2.1, x, v.2.2.2.2.2.2.2.2.2.2.2.1, v.2.2.2.2.2.2.2.2.2.2.2.2.1, v.2.2.2.2.2.2.2.2.2.2.2.2.2.1, v.2.2.2.2.2.2.2.2.2.2.2.2.2.2.1, v.2.2.2.2.2.2.2.2.2.2.2.2.2.2.2.1, v.2.2.2.2.2.2.2.2.2.2.2.2.2.2.2.2)
def mSetAreSame (v : zM) (x : Int32) : zM := (v.1, v.2.1, v.2.2.1, v.2.2.2.1, v.2.2.2.2.1, v.2.2.2.2.2.1, v.2.2.2.2.2.2.1, v.2.2.2.2.2.2.2.1, v.2.2.2.2.2.2.2.2.1, v.2.2.2.2.2.2.2.2.2.1, v.2.2.2.2.2.2.2.2.2.2.1, x, v.2.2.2.2.2.2.2.2.2.2.2.2.1, v.2.2.2.2.2.2.2.2.2.2.2.2.2.1, v.2.2.2.2.2.2.2.2.2.2.2.2.2.2.1, v.2.2.2.2.2.2.2.2.2.2.2.2.2.2.2.1, v.2.2.2.2.2.2.2.2.2.2.2.2.2.2.2.2)
def mSetAt (v : zM) (x : Int32) : zM := (v.1, v.2.1, v.2.2.1, v.2.2.2.1, v.2.2.2.2.1, v.2.2.2.2.2.1, v.2.2.2.2.2.2.1, v.2.2.2.2.2.2.2.1, v.2.2.2.2.2.2.2.2.1, v.2.2.2.2.2.2.2.2.2.1, v.2.2.2.2.2.2.2.2.2.2.1, v.2.2.2.2.2.2.2.2.2.2.2.1, x, v.2.2.2.2.2.2.2.2.2.2.2.2.2.1, v.2.2.2.2.2.2.2.2.2.2.2.2.2.2.1, v.2.2.2.2.2.2.2.2.2.2.2.2.2.2.2.1, v.2.2.2.2.2.2.2.2.2.2.2.2.2.2.2.2)
def mSetIsWrong (v : zM) (x : Int32) : zM := (v.1, v.2.1, v.2.2.1, v.2.2.2.1, v.2.2.2.2.1, v.2.2.2.2.2.1, v.2.2.2.2.2.2.1, v.2.2.2.2.2.2.2.1, v.2.2.2.2.2.2.2.2.1, v.2.2.2.2.2.2.2.2.2.1, v.2.2.2.2.2.2.2.2.2.2.1, v.2.2.2.2.2.2.2.2.2.2.2.1, v.2.2.2.2.2.2.2.2.2.2.2.2.1, x, v.2.2.2.2.2.2.2.2.2.2.2.2.2.2.1, v.2.2.2.2.2.2.2.2.2.2.2.2.2.2.2.1, v.2.2.2.2.2.2.2.2.2.2.2.2.2.2.2.2)
def mSetPosition (v : zM) (x : Int32) : zM := (v.1, v.2.1, v.2.2.1, v.2.2.2.1, v.2.2.2.2.1, v.2.2.2.2.2.1, v.2.2.2.2.2.2.1, v.2.2.2.2.2.2.2.1, v.2.2.2.2.2.2.2.2.1, v.2.2.2.2.2.2.2.2.2.1, v.2.2.2.2.2.2.2.2.2.2.1, v.2.2.2.2.2.2.2.2.2.2.2.1, v.2.2.2.2.2.2.2.2.2.2.2.2.1, v.2.2.2.2.2.2.2.2.2.2.2.2.2.1, x, v.2.2.2.2.2.2.2.2.2.2.2.2.2.2.2.1, v.2.2.2.2.2.2.2.2.2.2.2.2.2.2.2.2)
def mSetReason (v : zM) (x : Int32) : zM := (v.1, v.2.1, v.2.2.1, v.2.2.2.1, v.2.2.2.2.1, v.2.2.2.2.2.1, v.2.2.2.2.2.2.1, v.2.2.2.2.2.2.2.1, v.2.2.2.2.2.2.2.2.1, v.2.2.2.2.2.2.2.2.2.1, v.2.2.2.2.2.2.2.2.2.2.1, v.2.2.2.2.2.2.2.2.2.2.2.1, v.2.2.2.2.2.2.2.2.2.2.2.2.1, v.2.2.2.2.2.2.2.2.2.2.2.2.2.1, v.2.2.2.2.2.2.2.2.2.2.2.2.2.2.1, x, v.2.2.2.2.2.2.2.2.2.2.2.2.2.2.2.2)
def mSetCause (v : zM) (x : Int32) : zM := (v.1, v.2.1, v.2.2.1, v.2.2.2.1, v.2.2.2.2.1, v.2.2.2.2.2.1, v.2.2.2.2.2.2.1, v.2.2.2.2.2.2.2.1, v.2.2.2.2.2.2.2.2.1, v.2.2.2.2.2.2.2.2.2.1, v.2.2.2.2.2.2.2.2.2.2.1, v.2.2.2.2.2.2.2.2.2.2.2.1, v.2.2.2.2.2.2.2.2.2.2.2.2.1, v.2.2.2.2.2.2.2.2.2.2.2.2.2.1, v.2.2.2.2.2.2.2.2.2.2.2.2.2.2.1, v.2.2.2.2.2.2.2.2.2.2.2.2.2.2.2.1, x)
def tEd (t : zT) (k : Nat) : zE := tEds t k
def tSetEd (t : zT) (k : Nat) (e : zE) : zT := tSetEds t (va_up (tEds t) k e)
def zsh (g : Nat → Nat) (n : Nat) : Nat → Nat := fun i => g (n + i)
def gE (g : Nat → Nat) (k : Nat) : Nat → Nat := fun i => g (1 + 7 * k + i)
/-- the editor that a number means -/
def ixE (number : Int32) : Nat := if number = 0 then 0 else if number = 1 then 1 else 2
def wN (cI : ClassId) (a c : Nat) (n : zN) : va_W := [(a, .inr (3, [.ref c, .int (nSize n)])), (c, .inl (cI, nCap n, .inl (nRow n)))]
def wEo (g : Nat → Nat) (e : zE) : va_W := [(g 0, .inr (1, [.int (eNum e), .ref (g 1), .ref (g 3), .ref (g 5), .int (eUw e), .int (eHeard e), .int (eSpot e), .int (eWr e)]))]
def wE (cI : ClassId) (g : Nat → Nat) (e : zE) : va_W := [wEo g e, wN cI (g 1) (g 2) (eCopy e), wN cI (g 3) (g 4) (eWait e), wN cI (g 5) (g 6) (eBacks e)].flatten
def wSo (g : Nat → Nat) : va_W := [(g 0, .inr (4, [.ref (g 1), .ref (g 8), .ref (g 15), .ref (g 22), .ref (g 24), .ref (g 26)]))]
def wS (cI : ClassId) (g : Nat → Nat) (t : zT) : va_W := [wSo g, wE cI (gE g 0) (tEd t 0), wE cI (gE g 1) (tEd t 1), wE cI (gE g 2) (tEd t 2), wN cI (g 22) (g 23) (tLog t), wN cI (g 24) (g 25) (tText t), wN cI (g 26) (g 27) (tWrs t)].flatten
/-- the two editors beside the editor k -/
def wR (cI : ClassId) (g : Nat → Nat) (t : zT) (k : Nat) : va_W := if k = 0 then wE cI (gE g 1) (tEd t 1) ++ wE cI (gE g 2) (tEd t 2) else if k = 1 then wE cI (gE g 0) (tEd t 0) ++ wE cI (gE g 2) (tEd t 2) else wE cI (gE g 0) (tEd t 0) ++ wE cI (gE g 1) (tEd t 1)
/-- a state, the editor k (with the value e) ahead of the other ones -/
def wF (cI : ClassId) (g : Nat → Nat) (t : zT) (k : Nat) (e : zE) : va_W := [wSo g, wE cI (gE g k) e, wN cI (g 22) (g 23) (tLog t), wN cI (g 24) (g 25) (tText t), wN cI (g 26) (g 27) (tWrs t), wR cI g t k].flatten
def wCo (g : Nat → Nat) (v : zC) : va_W := [(g 0, .inr (0, [.ref (g 1), .ref (g 3), .int (cPos v), .int (cRsn v), .int (cCause v), .int (cDone v)]))]
def wC (cI : ClassId) (g : Nat → Nat) (v : zC) : va_W := [wCo g v, wN cI (g 1) (g 2) (cSigns v), wN cI (g 3) (g 4) (cNums v)].flatten
def wHo (h a0 a1 a2 a3 a4 : Nat) (sz : Int32) : va_W := [(h, .inr (2, [.ref a0, .ref a1, .ref a2, .ref a3, .ref a4, .int sz]))]
def wXo (g : Nat → Nat) : va_W := [(g 0, .inr (5, [.ref (g 1), .ref (g 29), .ref (g 57), .ref (g 85), .ref (g 113), .ref (g 114)]))]
def wX (cI : ClassId) (g : Nat → Nat) (x : zX) : va_W := [wXo g, wS cI (zsh g 1) (xNow x), wS cI (zsh g 29) (xTrial x), wS cI (zsh g 57) (xUp x), wS cI (zsh g 85) (xDown x), wHo (g 113) (xGh x 0 0) (xGh x 1 0) (xGh x 2 0) (xGh x 3 0) (xGh x 4 0) (xHsz x), wS cI (xGh x 0) (xHv x 0), wS cI (xGh x 1) (xHv x 1), wS cI (xGh x 2) (xHv x 2), wS cI (xGh x 3) (xHv x 3), wS cI (xGh x 4) (xHv x 4), wC cI (zsh g 114) (xCm x)].flatten
def wMx (cI : ClassId) (g : Nat → Nat) (s aside before text letters bys first command : Nat → Int32) (known length logLong areSame at0 isWrong position reason cause : Int32) : va_W := [(g 0, .inr (6, [.ref (g 1), .ref (g 2), .ref (g 3), .int known, .ref (g 4), .int length, .ref (g 5), .ref (g 6), .int logLong, .int areSame, .ref (g 7), .int at0, .int isWrong, .ref (g 8), .int position, .int reason, .int cause])),
  (g 1, .inl (cI, 445, .inl s)), (g 2, .inl (cI, 445, .inl aside)), (g 3, .inl (cI, 1780, .inl before)), (g 4, .inl (cI, 60, .inl text)), (g 5, .inl (cI, 96, .inl letters)), (g 6, .inl (cI, 96, .inl bys)), (g 7, .inl (cI, 96, .inl first)), (g 8, .inl (cI, 4, .inl command))]
theorem wF_perm {cI : ClassId} {g : Nat → Nat} {t : zT} {k : Nat} {e : zE} (hk : k < 3) : (wF cI g t k e).Perm (wS cI g (tSetEd t k e)) := by
  have h : k = 0 ∨ k = 1 ∨ k = 2 := by omega
  rcases h with rfl | rfl | rfl
  · exact List.Perm.flatten (l₁ := [wSo g, wE cI (gE g 0) e, wN cI (g 22) (g 23) (tLog t), wN cI (g 24) (g 25) (tText t), wN cI (g 26) (g 27) (tWrs t), wE cI (gE g 1) (tEd t 1), wE cI (gE g 2) (tEd t 2), []]) (l₂ := [wSo g, wE cI (gE g 0) e, wE cI (gE g 1) (tEd t 1), wE cI (gE g 2) (tEd t 2), wN cI (g 22) (g 23) (tLog t), wN cI (g 24) (g 25) (tText t), wN cI (g 26) (g 27) (tWrs t), []]) (z_pm [0, 1, 5, 6, 2, 3, 4, 7] 8 rfl (by decide) rfl)
  · exact List.Perm.flatten (l₁ := [wSo g, wE cI (gE g 1) e, wN cI (g 22) (g 23) (tLog t), wN cI (g 24) (g 25) (tText t), wN cI (g 26) (g 27) (tWrs t), wE cI (gE g 0) (tEd t 0), wE cI (gE g 2) (tEd t 2), []]) (l₂ := [wSo g, wE cI (gE g 0) (tEd t 0), wE cI (gE g 1) e, wE cI (gE g 2) (tEd t 2), wN cI (g 22) (g 23) (tLog t), wN cI (g 24) (g 25) (tText t), wN cI (g 26) (g 27) (tWrs t), []]) (z_pm [0, 5, 1, 6, 2, 3, 4, 7] 8 rfl (by decide) rfl)
  · exact List.Perm.flatten (l₁ := [wSo g, wE cI (gE g 2) e, wN cI (g 22) (g 23) (tLog t), wN cI (g 24) (g 25) (tText t), wN cI (g 26) (g 27) (tWrs t), wE cI (gE g 0) (tEd t 0), wE cI (gE g 1) (tEd t 1), []]) (l₂ := [wSo g, wE cI (gE g 0) (tEd t 0), wE cI (gE g 1) (tEd t 1), wE cI (gE g 2) e, wN cI (g 22) (g 23) (tLog t), wN cI (g 24) (g 25) (tText t), wN cI (g 26) (g 27) (tWrs t), []]) (z_pm [0, 5, 6, 1, 2, 3, 4, 7] 8 rfl (by decide) rfl)
theorem tSetEd_same (t : zT) (k : Nat) : tSetEd t k (tEd t k) = t := by
  have h : va_up (tEds t) k (tEd t k) = tEds t := by
    funext j
    by_cases e : j = k
    · subst e; simp [va_up, tEd]
    · simp [va_up, e]
  rw [tSetEd, h]; rfl
theorem wF_focus {cI : ClassId} {g : Nat → Nat} {t : zT} {k : Nat} (hk : k < 3) : (wS cI g t).Perm (wF cI g t k (tEd t k)) := by
  have h := wF_perm (cI := cI) (g := g) (t := t) (e := tEd t k) hk
  rw [tSetEd_same] at h
  exact h.symm
theorem ixE_lt (n : Int32) : ixE n < 3 := by
  unfold ixE
  split
  · omega
  · split <;> omega
theorem z_repl {α : Type} {bs : List (List α)} {w : List α} {bi : Nat} (ws : List (List α)) (hbi : bs[bi]? = some w) (hp : w.Perm ws.flatten) : bs.flatten.Perm (bs.take bi ++ (ws ++ bs.drop (bi + 1))).flatten := by
  have hl : bi < bs.length := (List.getElem?_eq_some_iff.mp hbi).1
  have e : bs = bs.take bi ++ (w :: bs.drop (bi + 1)) := by
    have h2 : bs[bi] = w := (List.getElem?_eq_some_iff.mp hbi).2
    rw [← h2, List.getElem_cons_drop, List.take_append_drop]
  rw [List.flatten_append, List.flatten_append]
  conv => lhs; rw [e, List.flatten_append, List.flatten_cons]
  exact List.Perm.append_left _ (hp.append_right _)
section ZV
variable {p : Program} {l : Launch} {e : Env} {R : Room} {s : State} {m : MethodId} {args : Array Value} {below : List Frame} {meth : Method} {c : Code} {D : va_G} {A : Nat → Prop} {nL cells slots : Nat} {Qf : State → Prop} {bs : List va_W} {pc : Nat} {ls : List (Option Value)} {st : List Value}
theorem z_permF (bs1 : List va_W) (hp : bs.flatten.Perm bs1.flatten) (kk : ZZ p l e R s m args below meth c D A nL cells slots Qf bs1 pc ls st) : ZZ p l e R s m args below meth c D A nL cells slots Qf bs pc ls st := fun H locs la hP hD hS hl => kk H locs la (z_Pp hp hP) (z_Dp hp hD) hS hl
/-- the block bi is opened into blocks -/
theorem z_open (bi : Nat) {w : va_W} (ws : List va_W) (bs1 : List va_W) (hbi : bs[bi]? = some w) (hw : w = ws.flatten) (hbs : bs.take bi ++ (ws ++ bs.drop (bi + 1)) = bs1) (kk : ZZ p l e R s m args below meth c D A nL cells slots Qf bs1 pc ls st) : ZZ p l e R s m args below meth c D A nL cells slots Qf bs pc ls st := by
  subst hbs
  exact z_permF _ (z_repl ws hbi (by rw [hw])) kk
theorem z_openP (bi : Nat) {w : va_W} (ws : List va_W) (bs1 : List va_W) (hbi : bs[bi]? = some w) (hw : w.Perm ws.flatten) (hbs : bs.take bi ++ (ws ++ bs.drop (bi + 1)) = bs1) (kk : ZZ p l e R s m args below meth c D A nL cells slots Qf bs1 pc ls st) : ZZ p l e R s m args below meth c D A nL cells slots Qf bs pc ls st := by
  subst hbs
  exact z_permF _ (z_repl ws hbi hw) kk
/-- the blocks of bs1's block bi are put together -/
theorem z_shut (bi : Nat) {w : va_W} (ws : List va_W) (bs1 : List va_W) (hbi : bs1[bi]? = some w) (hw : w = ws.flatten) (hbs : bs1.take bi ++ (ws ++ bs1.drop (bi + 1)) = bs) (kk : ZZ p l e R s m args below meth c D A nL cells slots Qf bs1 pc ls st) : ZZ p l e R s m args below meth c D A nL cells slots Qf bs pc ls st := by
  subst hbs
  exact z_permF _ (z_repl ws hbi (by rw [hw])).symm kk
theorem z_shutP (bi : Nat) {w : va_W} (ws : List va_W) (bs1 : List va_W) (hbi : bs1[bi]? = some w) (hw : w.Perm ws.flatten) (hbs : bs1.take bi ++ (ws ++ bs1.drop (bi + 1)) = bs) (kk : ZZ p l e R s m args below meth c D A nL cells slots Qf bs1 pc ls st) : ZZ p l e R s m args below meth c D A nL cells slots Qf bs pc ls st := by
  subst hbs
  exact z_permF _ (z_repl ws hbi hw).symm kk
end ZV
